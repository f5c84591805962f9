/** Boundary cases of the document, sentence by sentence: plays and plans as they are told (promises 9 to 14). */
public final class PlayBoundaryTest {
    private PlayBoundaryTest() { }

    public static void main(String[] args) {
        textThatRules();
        otherClauses();
        enters();
        exits();
        goes();
        hits();
        beats();
        cantBe();
        doneStays();
        lines();
        playOfBeats();
        planAtFirst();
        byTexts();
        byRefused();
        playedAnswers();
        playedRefused();
        clears();
        whereInABeat();
        atRefused();
        holdsByHands();
        holdRefused();
        heldInABeat();
        heldRefused();
        Due.close();
    }

    /** A booth of five places with two figures. */
    private static SixHands two() {
        SixHands x = new SixHands(5);
        x.figure(0, 1);
        x.figure(2, 1);
        return x;
    }

    /** Plays a text in a booth of two: what it answers, and the lines that both have then. */
    private static void plays(String text, int answer, int lines, int others) {
        SixHands x = two();
        Due.is("played " + text, answer, Due.play(x, text));
        Due.is("lines of 0 by " + text, lines, x.about(10));
        Due.is("lines of 1 by " + text, others, x.about(11));
    }

    private static void textThatRules() {
        Due.says(0, "THE TEXT (told; at first none) rules.");
        SixHands x = Booths.glove(3, 2, 1);
        x.take(1);
        Due.is("at first none", -1, x.about(6));
        Due.is("a text that forbids all", 1, Due.read(x, "may 1=2;pass 1=2;shows 1=2;"));
        Due.is("reading it is no rule", -1, x.judge(0));
        Due.is("seen", 1, x.sees(0, 0));
        x.played(1);
        Due.is("playing it is no rule", -1, x.judge(0));
        Due.is("still none", -1, x.about(6));
        x.by(1);
        Due.is("told, it rules", 5, x.judge(1));
        Due.is("not seen", 0, x.sees(0, 0));
        x.by(0);
        Due.is("one without laws", 0, x.judge(1));
        Due.is("seen again", 1, x.sees(0, 0));
    }

    private static void otherClauses() {
        Due.says(0, "PLAYED by a TEXT: its other clauses, in their order, go on with THE PLAY as it stands:");
        SixHands x = two();
        Due.is("no clause", -1, Due.play(x, ""));
        Due.is("laws alone", -1, Due.play(x, "may 1=2;pass 1=2;shows 1=2;"));
        Due.is("no beat", 0, x.about(7));
        Due.is("in their order", -1, Due.play(x, "enter 0 at 1;exit 0;enter 0 at 2;go 0 to 3;beat;may 1=1;"));
        Due.is("where it is then", 3, x.at(0, 0));
        Due.is("its own enter can't be now", 0, x.played(2));
        Due.is("on as it stands", -1, Due.play(x, "beat;go 0 to 4;"));
        Due.is("beat 1", 3, x.at(1, 0));
        Due.is("behind it", 4, x.at(-1, 0));
        Due.is("again", -1, x.played(3));
        Due.is("beat 2", 4, x.at(2, 0));
    }

    private static void enters() {
        Due.says(0, "enter: a FIGURE that is off comes to a PLACE;");
        plays("enter 0 at 0;", -1, 1, 0);
        plays("enter 0 at 4;", -1, 1, 0);
        plays("enter 0 at 1;enter 0 at 1;", 1, 1, 0);
        plays("enter 0 at 1;enter 0 at 2;", 1, 1, 0);
        plays("enter 0 at 1;exit 0;enter 0 at 1;", -1, 3, 0);
        plays("enter 0 at 1;enter 1 at 1;", -1, 1, 1);
        plays("enter 0 at 1;beat;enter 0 at 1;", 2, 1, 0);
    }

    private static void exits() {
        Due.says(0, "exit: one that is on is off;");
        plays("exit 0;", 0, 0, 0);
        plays("enter 0 at 0;exit 0;", -1, 2, 0);
        plays("enter 0 at 0;exit 0;exit 0;", 2, 2, 0);
        plays("enter 0 at 0;exit 1;", 1, 1, 0);
        SixHands x = two();
        Due.play(x, "enter 0 at 0;beat;exit 0;beat;");
        Due.is("on", 0, x.at(0, 0));
        Due.is("off", -1, x.at(1, 0));
    }

    private static void goes() {
        Due.says(0, "go: one that is on is at a PLACE;");
        plays("go 0 to 0;", 0, 0, 0);
        plays("enter 0 at 0;go 0 to 4;", -1, 2, 0);
        plays("enter 0 at 4;go 0 to 0;", -1, 2, 0);
        plays("enter 0 at 2;go 0 to 2;", -1, 2, 0);
        plays("enter 0 at 2;exit 0;go 0 to 2;", 2, 2, 0);
        plays("enter 0 at 2;go 1 to 2;", 1, 1, 0);
    }

    private static void hits() {
        Due.says(0, "hit: two unlike ones that are on, at PLACES that part by 1 at most;");
        plays("hit 0,1;", 0, 0, 0);
        plays("enter 0 at 2;hit 0,0;", 1, 1, 0);
        plays("enter 0 at 2;hit 0,1;", 1, 1, 0);
        plays("enter 1 at 2;hit 0,1;", 1, 0, 1);
        plays("enter 0 at 2;enter 1 at 2;exit 1;hit 0,1;", 3, 1, 2);
        for (int one = 0; one < 5; one++) {
            for (int other = 0; other < 5; other++) {
                boolean near = Math.abs(one - other) <= 1;
                String enter = "enter 0 at " + one + ";enter 1 at " + other + ";";
                plays(enter + "hit 0,1;", near ? -1 : 2, near ? 2 : 1, near ? 2 : 1);
                plays(enter + "hit 1,0;", near ? -1 : 2, near ? 2 : 1, near ? 2 : 1);
            }
        }
        // Off is no place next to 0.
        plays("enter 0 at 0;hit 0,1;", 1, 1, 0);
        plays("enter 0 at 0;hit 1,0;", 1, 1, 0);
    }

    private static void beats() {
        Due.says(0, "beat: a BEAT ends with all as it is.");
        SixHands x = two();
        Due.play(x, "beat;beat;enter 1 at 4;beat;enter 0 at 0;go 1 to 3;go 1 to 2;beat;exit 0;exit 1;");
        int[][] due = {{-1, -1}, {-1, -1}, {-1, 4}, {0, 2}};
        for (int beat = 0; beat < 4; beat++) {
            Due.is("0 in beat " + beat, due[beat][0], x.at(beat, 0));
            Due.is("1 in beat " + beat, due[beat][1], x.at(beat, 1));
        }
        Due.is("beat is no line", 2, x.about(10));
        Due.is("a beat of no figures", -1, Due.play(new SixHands(3), "beat;"));
    }

    private static void cantBe() {
        Due.says(0, "One that can't be (a FIGURE or PLACE that isn't there, a 25th BEAT, too) ends it: its number among all CLAUSES (from 0);");
        plays("enter 2 at 0;", 0, 0, 0);
        plays("beat;exit 5;", 1, 0, 0);
        plays("go 2 to 0;", 0, 0, 0);
        plays("enter 0 at 0;hit 0,2;", 1, 1, 0);
        plays("enter 0 at 0;hit 2,0;", 1, 1, 0);
        plays("enter 0 at 5;", 0, 0, 0);
        plays("enter 0 at 7;", 0, 0, 0);
        plays("enter 0 at 4;go 0 to 5;", 1, 1, 0);
        plays("beat;".repeat(24), -1, 0, 0);
        plays("beat;".repeat(25), 24, 0, 0);
        plays("may 1=1;" + "beat;".repeat(25), 25, 0, 0);
        plays("may 1=1;pass 1=1;shows 1=1;exit 0;", 3, 0, 0);
        plays("exit 0;may 1=1;", 0, 0, 0);
        plays("beat;".repeat(24) + "enter 0 at 0;go 0 to 1;", -1, 2, 0);
        SixHands three = new SixHands(3);
        three.figure(0, 1);
        Due.is("place 3 of three", 1, Due.play(three, "enter 0 at 2;go 0 to 3;"));
        SixHands none = new SixHands(8);
        Due.is("no figure at all", 0, Due.play(none, "enter 0 at 0;"));
    }

    private static void doneStays() {
        Due.says(0, "what was done stays.");
        SixHands x = two();
        Due.is("the 27th clause", 26, Due.play(x, "enter 0 at 3;go 0 to 2;" + "beat;".repeat(26) + "exit 0;"));
        Due.is("24 beats", 24, x.about(7));
        Due.is("on in all", 2, x.at(23, 0));
        Due.is("what is behind isn't done", 2, x.at(-1, 0));
        Due.is("lines", 2, x.about(10));
        Due.is("one more can't be", 1, Due.play(x, "go 0 to 4;beat;exit 0;"));
        Due.is("the clause ahead is done", 4, x.at(-1, 0));
        Due.is("no 25th", 24, x.about(7));
        Due.is("the last beat is as it was", 2, x.at(23, 0));
        Due.is("the third clause", 2, Due.play(two(), "beat;enter 0 at 1;enter 0 at 2;beat;"));
    }

    private static void lines() {
        Due.says(0, "Each of enter, exit, go, hit is a line of its FIGURE (hit: of both).");
        plays("enter 0 at 1;", -1, 1, 0);
        plays("enter 0 at 1;exit 0;", -1, 2, 0);
        plays("enter 0 at 1;go 0 to 1;", -1, 2, 0);
        plays("enter 0 at 1;enter 1 at 1;hit 0,1;", -1, 2, 2);
        plays("enter 0 at 1;enter 1 at 1;hit 1,0;hit 0,1;", -1, 3, 3);
        plays("enter 0 at 1;go 0 to 5;", 1, 1, 0);
        plays("enter 0 at 1;enter 1 at 3;hit 0,1;", 2, 1, 1);
        plays("may 1=1;beat;beat;", -1, 0, 0);
        SixHands x = two();
        Due.read(x, "enter 0 at 0;" + "go 0 to 0;".repeat(27) + "exit 0;");
        for (int i = 1; i <= 100; i++) {
            x.played(0);
        }
        Due.is("2900 lines", 2900, x.about(10));
        x.rules(6, 0);
        x.clear();
        Due.is("none", 0, x.about(10));
    }

    private static void playOfBeats() {
        Due.says(0, "BEATS 0 .. (24 at most), in each where each FIGURE is (or off).");
        SixHands x = two();
        Due.is("none at first", 0, x.about(7));
        Due.read(x, "beat;");
        Due.read(x, "enter 0 at 3;beat;");
        x.played(1);
        for (int beats = 1; beats <= 24; beats++) {
            Due.is("beats", beats, x.about(7));
            Due.is("beat " + (beats - 1), 3, x.at(beats - 1, 0));
            Due.is("off in it", -1, x.at(beats - 1, 1));
            Due.is("no beat yet", -2, x.at(beats, 0));
            Due.is("one more", beats < 24 ? -1 : 0, x.played(0));
        }
        Due.is("24 at most", 24, x.about(7));
    }

    private static void planAtFirst() {
        Due.says(0, "A PLAN: for each BEAT and FIGURE which HANDS hold it (bits; told, at first none).");
        SixHands x = Booths.glove(2, 24, 3);
        x.figure(1, 1);
        for (int beat = 0; beat < 24; beat++) {
            Due.is("none at first", 0, x.held(beat, 0) + x.held(beat, 1));
            Due.yes("told", x.hold(beat, beat % 2, 63 - beat));
        }
        for (int beat = 0; beat < 24; beat++) {
            Due.is("as told in beat " + beat, 63 - beat, x.held(beat, beat % 2));
            Due.is("the other by none", 0, x.held(beat, 1 - beat % 2));
        }
        SixHands y = Booths.glove(2, 1, 1);
        y.hold(0, 0, 2);
        Due.play(y, "beat;");
        Due.is("none in a new beat", 0, y.held(1, 0));
        Due.is("as told in the one ahead", 2, y.held(0, 0));
    }

    /** Promise 9. */
    private static void byTexts() {
        Due.says(9, "THE TEXT (NONE: none): true.");
        SixHands x = new SixHands(3);
        Due.yes("none of none", x.by(-1));
        for (int text = 0; text < 4; text++) {
            Due.read(x, "beat;");
            Due.yes("by the latest", x.by(text));
            Due.is("THE TEXT", text, x.about(6));
            Due.yes("by the first", x.by(0));
            Due.is("THE TEXT", 0, x.about(6));
        }
        Due.yes("none again", x.by(SixHands.NONE));
        Due.is("THE TEXT", -1, x.about(6));
    }

    private static void byRefused() {
        Due.says(9, "False for others.");
        Due.no("no text at all", new SixHands(3).by(0));
        Portrait.stays("by others", Booths::ripe, x -> {
            for (int text : new int[] {-2, -3, 2, 3, 4, 5, 100}) {
                Due.no("by(" + text + ")", x.by(text));
            }
            for (int far : Booths.FAR) {
                Due.no("by(" + far + ")", x.by(far));
            }
        });
        Portrait.stays("by a fifth", Booths::full, x -> Due.no("by(4)", x.by(4)));
        SixHands y = new SixHands(3);
        Due.read(y, "may 1=2");
        Due.no("one with a fault is none", y.by(0));
        Due.read(y, "beat;");
        y.back();
        Due.no("one that isn't there any more", y.by(0));
    }

    /** Promise 10. */
    private static void playedAnswers() {
        Due.says(10, "PLAYED by a TEXT: NONE: all is done; else the number of the CLAUSE that can't be.");
        plays("", -1, 0, 0);
        plays("enter 0 at 0;beat;exit 0;", -1, 2, 0);
        plays("exit 0;", 0, 0, 0);
        plays("beat;".repeat(24) + "enter 0 at 0;" + "go 0 to 0;".repeat(15) + "beat;", 40, 16, 0);
        SixHands x = two();
        for (int text = 0; text < 4; text++) {
            Due.read(x, "beat;".repeat(text) + "exit 0;");
        }
        for (int text = 0; text < 4; text++) {
            Due.is("of each text its own clause", text, x.played(text));
        }
        Due.is("beats of all", 6, x.about(7));
        SixHands asked = new SixHands(8);
        asked.puppeteer(3, 1);
        asked.figure(0, 1);
        asked.rules(1, 0);
        Due.play(asked, "enter 0 at 4;beat;");
        sought(asked, 0, 0, 0, 0);
        Due.is("out of reach now", -1, Due.play(asked, "go 0 to 5;beat;"));
        sought(asked, -1, -1, 2, 1);
        Due.is("no further", 1, Due.play(asked, "go 0 to 6;exit 1;beat;"));
        sought(asked, -1, -1, 3, 1);
    }

    private static void sought(SixHands x, int fewest, int least, int lost, int bound) {
        Due.is("fewest", fewest, x.fewest(1));
        Due.is("least", least < 0 ? -1 : 1, x.least());
        Due.is("lost by what is struck", lost, x.strike(1, 1));
        Due.is("bound", bound, x.bound(1));
    }

    private static void playedRefused() {
        Due.says(10, "-2 for others.");
        Due.is("no text at all", -2, new SixHands(3).played(0));
        Portrait.stays("played by others", Booths::ripe, x -> {
            for (int text : new int[] {-1, -2, 2, 3, 4, 5}) {
                Due.is("played(" + text + ")", -2, x.played(text));
            }
            for (int far : Booths.FAR) {
                Due.is("played(" + far + ")", -2, x.played(far));
            }
        });
        Portrait.stays("played by a fifth", Booths::full, x -> Due.is("played(4)", -2, x.played(4)));
    }

    /** Promise 11. */
    private static void clears() {
        Due.says(11, "THE PLAY and THE PLAN are empty, all FIGURES are off, without lines: how many BEATS there were.");
        Due.is("of nothing", 0, new SixHands(3).clear());
        SixHands x = Booths.glove(2, 24, 3);
        x.rules(3, 4);
        x.by(0);
        x.take(7);
        Due.put(x, "beat");
        Due.is("by nobody", -1, x.fewest(0));
        Due.is("by one", 1, x.least());
        Due.is("the line of one", 1, x.strike(0, 1));
        Due.is("24", 24, x.clear());
        Due.is("by nobody now", 0, x.fewest(0));
        Due.is("without", 0, x.least());
        Due.is("no line", 0, x.strike(0, 1));
        Due.is("none now", 0, x.clear());
        Due.is("off", -1, x.at(-1, 0));
        Due.is("no lines", 0, x.about(10));
        Due.is("no beat", -1, x.held(0, 0));
        int[] stay = {8, 3, 1, 3, 4, 1, 0, 0, 4};
        for (int what = 0; what <= 8; what++) {
            Due.is("about(" + what + ") stays", stay[what], x.about(what));
        }
        Due.is("the play can begin anew", -1, x.played(0));
        for (int beat = 0; beat < 24; beat++) {
            Due.is("no old hold in beat " + beat, 0, x.held(beat, 0));
        }
        SixHands on = two();
        Due.play(on, "enter 0 at 1;");
        Due.is("on without a beat", 0, on.clear());
        Due.is("off then", -1, on.at(-1, 0));
        Due.is("it can enter", -1, on.played(0));
        Due.is("one line", 1, on.about(10));
        Due.is("the image stays", 0, on.back());
        Due.is("as it was at first", 0, on.about(2));
    }

    /** Promise 12. */
    private static void whereInABeat() {
        Due.says(12, "Where a FIGURE is in a BEAT (beat NONE: behind the last one, as it stands); NONE: off.");
        SixHands x = two();
        Due.is("off without beats", -1, x.at(-1, 0));
        Due.play(x, "enter 0 at 0;");
        Due.is("on without beats", 0, x.at(-1, 0));
        Due.play(x, "go 0 to 4;beat;exit 0;beat;enter 0 at 0;beat;go 0 to 1;");
        int[] due = {4, -1, 0};
        for (int beat = 0; beat < 3; beat++) {
            Due.is("in beat " + beat, due[beat], x.at(beat, 0));
            Due.is("the other is off", -1, x.at(beat, 1));
        }
        Due.is("as it stands", 1, x.at(SixHands.NONE, 0));
        SixHands full = Booths.full();
        Due.is("the last figure", 3, full.at(1, 5));
        Due.is("off in the beat ahead", -1, full.at(0, 5));
        Due.is("the highest place", 7, full.at(0, 0));
    }

    private static void atRefused() {
        Due.says(12, "-2 for others.");
        SixHands none = new SixHands(3);
        Due.is("no figure", -2, none.at(-1, 0));
        SixHands x = Booths.ripe();
        int[][] others = {{3, 0}, {4, 0}, {24, 0}, {-2, 0}, {0, 3}, {0, 5}, {0, 6}, {0, -1}, {-1, 3}, {-1, -1}, {-2, -1}, {3, 3}};
        for (int[] o : others) {
            Due.is("at(" + o[0] + ", " + o[1] + ")", -2, x.at(o[0], o[1]));
        }
        for (int far : Booths.FAR) {
            Due.is("beat " + far, -2, x.at(far, 0));
            Due.is("figure " + far, -2, x.at(0, far));
            Due.is("figure " + far + " as it stands", -2, x.at(-1, far));
        }
        // Behind the last beat of a full play no row is there.
        SixHands last = Booths.glove(3, 24, 1);
        Due.is("beat 24", -2, last.at(24, 0));
        Due.is("beat 23", 3, last.at(23, 0));
    }

    /** Promise 13. */
    private static void holdsByHands() {
        Due.says(13, "THE PLAN holds a FIGURE in a BEAT by HANDS (0 .. 63): true.");
        SixHands x = Booths.glove(3, 24, 3);
        for (int hands = 0; hands <= 63; hands++) {
            Due.yes("hold by " + hands, x.hold(23, 0, hands));
            Due.is("held", hands, x.held(23, 0));
        }
        Due.is("the beat ahead is as it was", 0, x.held(22, 0));
        SixHands off = Booths.full();
        Due.yes("one that is off, too", off.hold(0, 5, 32));
        Due.is("held", 32, off.held(0, 5));
        Due.is("but it can't be", 1, off.judge(1));
    }

    private static void holdRefused() {
        Due.says(13, "False for others, and HANDS that aren't there.");
        for (int puppeteers = 0; puppeteers <= 3; puppeteers++) {
            SixHands x = Booths.glove(3, 1, puppeteers);
            int all = (1 << 2 * puppeteers) - 1;
            Due.yes("all that are there", x.hold(0, 0, all));
            for (int hand = 2 * puppeteers; hand < 32; hand++) {
                Due.no("hand " + hand, x.hold(0, 0, 1 << hand));
                Due.no("hand " + hand + " with all", x.hold(0, 0, 1 << hand | all));
            }
            Due.is("it stays", all, x.held(0, 0));
        }
        Portrait.stays("hold of others", Booths::ripe, x -> {
            int[][] others = {{3, 0, 0}, {-1, 0, 0}, {24, 0, 0}, {0, 3, 0}, {0, -1, 0}, {0, 6, 0}, {0, 0, 16}, {0, 0, 64}, {0, 0, -1}};
            for (int[] o : others) {
                Due.no("hold(" + o[0] + ", " + o[1] + ", " + o[2] + ")", x.hold(o[0], o[1], o[2]));
            }
            for (int far : Booths.FAR) {
                Due.no("beat " + far, x.hold(far, 0, 0));
                Due.no("figure " + far, x.hold(0, far, 0));
                Due.no("hands " + far, x.hold(0, 0, far));
            }
        });
    }

    /** Promise 14. */
    private static void heldInABeat() {
        Due.says(14, "HANDS that hold a FIGURE in a BEAT by THE PLAN (bits).");
        SixHands x = Booths.full();
        for (int figure = 0; figure < 6; figure++) {
            x.hold(1, figure, 1 << figure);
        }
        for (int figure = 0; figure < 6; figure++) {
            Due.is("of the first beat", 0, x.held(0, figure));
            Due.is("of the last beat", 1 << figure, x.held(1, figure));
        }
        Due.yes("by none again", x.hold(1, 5, 0));
        Due.is("by none", 0, x.held(1, 5));
    }

    private static void heldRefused() {
        Due.says(14, "NONE for others.");
        Due.is("nothing there", -1, new SixHands(3).held(0, 0));
        SixHands x = Booths.ripe();
        int[][] others = {{3, 0}, {-1, 0}, {24, 0}, {0, 3}, {0, -1}, {0, 6}, {-1, -1}, {3, 3}};
        for (int[] o : others) {
            Due.is("held(" + o[0] + ", " + o[1] + ")", -1, x.held(o[0], o[1]));
        }
        for (int far : Booths.FAR) {
            Due.is("beat " + far, -1, x.held(far, 0));
            Due.is("figure " + far, -1, x.held(0, far));
        }
        SixHands last = Booths.glove(3, 24, 1);
        Due.is("beat 24", -1, last.held(24, 0));
        Due.is("figure 1", -1, last.held(23, 1));
    }
}
