/** Promises 7 and 8, and the second part of the terms: tokens, clauses, faults and arithmetic. */
public final class TextTest {
    private TextTest() { }

    public static void main(String[] args) {
        plainClauses();
        faultsOfClauses();
        faultsOfTokens();
        faultsOfAsks();
        faultsOfNames();
        tooDeep();
        longTexts();
        tooMany();
        arithmetic();
        truths();
        tapeBehindText();
        behindFaultyOnes();
        cutTokens();
        Due.close();
    }

    private static void good(String text) {
        SixHands x = new SixHands(8);
        Due.is("text " + text, 0, Due.read(x, text));
        Due.is("fault of " + text, 0, x.fault(0));
        Due.is("place of " + text, -1, x.fault(1));
    }

    private static void bad(String text, int fault, int place) {
        SixHands x = new SixHands(8);
        Due.is("text " + text, -1, Due.read(x, text));
        Due.is("fault of " + text, fault, x.fault(0));
        Due.is("place of " + text, place, x.fault(1));
        Due.is("texts behind " + text, 0, x.about(5));
    }

    private static void plainClauses() {
        for (String text : new String[] {"", " \n ", "beat;", " beat\n;\n", "enter 0 at 0;", "enter 5 at 7;", "exit 5;",
            "go 0 to 7;", "hit 0,5;", "hit 3 , 3;", "enter0at1;", "exit1;go2to3;hit0,1;beat;", "exit 0005;",
            "may 1=1;pass 1=1;shows 1=1;", "beat;may who=1;beat;"}) {
            good(text);
        }
    }

    private static void faultsOfClauses() {
        bad("beat", 1, 4);
        bad("beat  ", 1, 6);
        bad("beat ;;", 1, 6);
        bad("beat;beat", 1, 9);
        bad("beat;12", 1, 5);
        bad("enter 6 at 7;", 2, 6);
        bad("enter 5 at 8;", 2, 11);
        bad("enter 10000 at 8;", 2, 6);
        bad("enter 0 to 1;", 1, 8);
        bad("enter at 1;", 1, 6);
        bad("enter 0 at;", 1, 10);
        bad("enter 0 at 1 beat;", 1, 13);
        bad("exit 6;", 2, 5);
        bad("exit;", 1, 4);
        bad("exit figure;", 1, 5);
        bad("go 0 to 8;", 2, 8);
        bad("go 6 to 8;", 2, 3);
        bad("go 0 at 1;", 1, 5);
        bad("hit 0 , 6;", 2, 8);
        bad("hit 6,0;", 2, 4);
        bad("hit 0 0;", 1, 6);
        bad("hit 0,;", 1, 6);
        bad("hit -1,0;", 1, 4);
        bad("at 1;", 1, 0);
        bad("who=1;", 1, 0);
    }

    private static void faultsOfTokens() {
        bad("Beat;", 1, 0);
        bad("beats;", 1, 0);
        bad("figurefigure;", 1, 0);
        for (char letter : new char[] {'a', 'z', 'A', 'Z'}) {
            bad("beat" + letter + ";", 1, 0);
        }
        for (char none : new char[] {'@', '[', '`', '{', '!', ':'}) {
            bad("beat" + none + ";", 1, 4);
            bad("exit 1" + none + ";", 1, 6);
        }
        bad("?", 1, 0);
        bad("beat;\t", 1, 5);
        bad("beat;\r\n", 1, 5);
        bad("beat;" + (char) 0, 1, 5);
        bad("beat;" + (char) 228, 1, 5);
        bad("bea" + (char) 244 + ";", 1, 0);
        bad("may 1 ! 2;", 1, 6);
        bad("may 1;?", 1, 5);
        bad("may 1< =1;", 1, 7);
        bad("may 1=<1;", 1, 6);
        bad("may 1==1;", 1, 6);
        bad("may 1<>1;", 1, 6);
        good("may 1<=1;");
        good("may 1 >= 1 ;");
        good("may 1#2;");
        good("may 9999=09999;");
        bad("may 10000=1;", 2, 4);
        bad("may 1=99999999999999999999999;", 2, 6);
        bad("may 1 10000=1;", 1, 6);
        bad("may 1=1 10000;", 1, 8);
        bad("10000", 1, 0);
    }

    private static void faultsOfAsks() {
        for (String text : new String[] {"may (1)=1;", "may not 1=1;", "may not not 1=1;", "may not (1)=1;", "may - - 1=1;",
            "may -(-(1))=1;", "may 1 - -1=2;", "may 1--1=2;", "may 1=1 and 1=1 or not 1=1;", "may 1=1 or not not 1=1 and 1<2;"}) {
            good(text);
        }
        bad("may", 1, 3);
        bad("may ;", 1, 4);
        bad("may 1=1", 1, 7);
        bad("may 1;", 1, 5);
        bad("may =1;", 1, 4);
        bad("may 1=;", 1, 6);
        bad("may 1=1=1;", 1, 7);
        bad("may (1=1);", 1, 6);
        bad("may (1=1;", 1, 6);
        bad("may (1;", 1, 6);
        bad("may (1 and 1=1;", 1, 7);
        bad("may (1", 1, 6);
        bad("may 1)=1;", 1, 5);
        bad("may 1=1);", 1, 7);
        bad("may ()=1;", 1, 5);
        bad("may 1=not 1;", 1, 6);
        bad("may (not 1)=1;", 1, 5);
        bad("may -not 1=1;", 1, 5);
        bad("may 1+not 1=1;", 1, 6);
        bad("may 1+*1=1;", 1, 6);
        bad("may +1=1;", 1, 4);
        bad("may 1 1=1;", 1, 6);
        bad("may 1(1)=1;", 1, 5);
        bad("may 1=1 and;", 1, 11);
        bad("may and 1=1;", 1, 4);
        bad("may 1 and 1=1;", 1, 6);
        bad("may 1=1 not 1=1;", 1, 8);
        bad("may 1=1,1=1;", 1, 7);
        bad("may not;", 1, 7);
        bad("may 1=1 or or 1=1;", 1, 11);
    }

    private static void faultsOfNames() {
        String[] verbs = {"may", "pass", "shows"};
        String[] names = {"figure", "kind", "place", "beat", "who", "right", "from", "to", "seat", "many"};
        for (int v = 0; v < 3; v++) {
            for (int n = 0; n < 10; n++) {
                String text = verbs[v] + " " + names[n] + "=1;";
                if (n < 4 || n / 2 == 2 + v) {
                    good(text);
                } else {
                    bad(text, 5, verbs[v].length() + 1);
                }
            }
        }
        bad("may 1=-from;", 5, 7);
        bad("may whom=1;", 1, 4);
        bad("may at=1;", 1, 4);
        bad("may may=1;", 1, 4);
        bad("may Who=1;", 1, 4);
        bad("may figures=1;", 1, 4);
        bad("may wh o=1;", 1, 4);
        bad("may 1=1 from;", 1, 8);
        bad("may who from=1;", 1, 8);
    }

    private static void tooDeep() {
        good("may ((((((((1))))))))=1;");
        bad("may (((((((((1)))))))))=1;", 3, 12);
        good("may --------1=1;");
        bad("may ---------1=1;", 3, 12);
        good("may not not not not not not not not 1=1;");
        bad("may not not not not not not not not not 1=1;", 3, 36);
        bad("may not not not not not not not not 1=(1);", 3, 38);
        bad("may not not not not not not not not -1=1;", 3, 36);
        good("may not not (-(-(-1)))=1;");
        bad("may not not (-(-(-(1))))=1;", 3, 18);
        good("may (1)+(1)+(1)+(1)+(1)+(1)+(1)+(1)+(1)=9;");
        good("may -1+-1+-1+-1+-1+-1+-1+-1+-1=-9;");
        good("may -1*-1*-1*-1*-1*-1*-1*-1*-(1)=-1;");
        good("may not 1=1 and not 1=1 or not 1=1 and not 1=1 and not 1=1 and not 1=1 and not 1=1 and not 1=1 and not (1)=1;");
        good("may -------(1)+-------(1)=1;");
        bad("may -------(1)+-------((1))=1;", 3, 23);
        bad("may ((((((((not", 1, 12);
        bad("may 1+1+1+(((((((((1", 3, 18);
        bad("may 1*1*1*1=1 and 1=1 and 1=1 or ---------1", 3, 41);
        bad("may not 1=1 or not 1=1 or (((((((((1", 3, 34);
        bad("may (1)*(1)+(((((((((1", 3, 20);
        bad("may -1-1-(((((((((1", 3, 17);
    }

    private static void longTexts() {
        good("may " + "1+".repeat(146) + "1=1;");
        bad("may " + "1+".repeat(148), 1, 300);
        bad("may " + "1+".repeat(147) + "1=", 1, 300);
        good("\n".repeat(295) + "beat;");
        good(" ".repeat(300));
        bad(" ".repeat(296) + "beat", 1, 300);
        bad(" ".repeat(299) + "<", 1, 299);
        bad("may 1" + " ".repeat(294) + "<", 1, 300);
    }

    private static void tooMany() {
        String beats = "beat;".repeat(49);
        good(beats + "beat;");
        good(beats + "may 1=1;");
        bad(beats + "beat;beat;", 6, 250);
        bad(beats + "beat;  exit 9;", 6, 252);
        bad("may 1=1;" + beats + "may 1=1;", 4, 253);
        bad("may 1=1;" + beats + "pass 1=1;", 6, 253);
        bad("may 1=1;" + beats + "x", 1, 253);
        bad("may 1=1;may 1=1;", 4, 8);
        bad("pass 1=1;pass", 4, 9);
        bad("shows 1=1;beat;shows 1=1;", 4, 15);
    }

    /** Whether shows lets figure 1 (a rod, at place 2, in beat 1, with one more there) be seen from seat 2. */
    private static boolean shows(String ask) {
        SixHands x = new SixHands(4);
        x.figure(0, 1);
        x.figure(1, 1);
        Due.play(x, "beat;enter 0 at 2;enter 1 at 2;beat;");
        Due.rule(x, "shows " + ask + ";");
        return (x.sees(1, 2) & 2) != 0;
    }

    private static void arithmetic() {
        for (String ask : new String[] {"7/2=3", "-7/2=-3", "7/-2=-3", "-7/-2=3", "7/0=0", "1/0+5=5", "2+3*4=14", "2*3+4=10",
            "10-3-2=5", "100/10/5=2", "100/(10/5)=50", "2*-3=-6", "7/2*2=6", "-2*3=-6", "-(2+3)=0-5", "10-(3-2)=9", "2-3+4=3",
            "8/3*3-6=0", "9999*9999/1000=1000", "(9999*9999-1)/1000=999", "-9999*9999/1000=-1000", "(1-9999*9999)/1000=-999",
            "9999*9999+1=9999*101", "9999*9999+9999-9999*100=100", "(0-9999*9999-9999)/1000=-1000",
            "9999*9999*-1*9999=-9999*9999", "9999*9999*(9999*9999)=9999*9999", "-(9999*9999)*(9999*9999)=-9999*9999",
            "figure=1", "kind=1", "place=2", "beat=1", "seat=2", "many=2", "figure+kind*10+place*100+beat*1000=1211"}) {
            Due.yes(ask, shows(ask));
        }
    }

    private static void truths() {
        for (String ask : new String[] {"1=1", "1#2", "1<2", "1<=1", "1<=2", "2>1", "1>=1", "2>=1", "not 1=2", "not not 1=1",
            "not 1=1 or 1=1", "1=2 and 1=2 or 1=1", "1=1 or 1=1 and 1=2", "not 1=2 and 1=1", "1=2 or not 1=2", "-1<0",
            "1=1 and 1=1 and 1=1", "1=2 or 1=2 or 1=1", "not 1=2 or 1=1"}) {
            Due.yes(ask, shows(ask));
        }
        for (String ask : new String[] {"1=2", "1#1", "1<1", "2<1", "2<=1", "1>1", "1>2", "1>=2", "not 1=1", "not not 1=2",
            "1=1 and 1=2", "1=2 or 1=2", "1=2 or 1=1 and 1=2", "1=2 and 1=1 or 1=2", "not 1=1 and 1=2", "not 1=2 and 1=2"}) {
            Due.no(ask, shows(ask));
        }
    }

    private static void tapeBehindText() {
        SixHands x = new SixHands(3);
        Due.is("fault ahead of any", -1, x.fault(0));
        Due.is("its place", -1, x.fault(1));
        Due.is("text of an empty tape", 0, x.text());
        Due.is("fault without", 0, x.fault(0));
        Due.is("place without", -1, x.fault(1));
        Due.is("fault(2)", -1, x.fault(2));
        Due.is("fault(-1)", -1, x.fault(-1));
        Due.is("a bad text", -1, Due.read(x, "beat;?"));
        Due.is("tape behind a fault", 0, x.about(8));
        Due.is("fault", 1, x.fault(0));
        Due.is("place", 5, x.fault(1));
        Due.is("a second text", 1, Due.read(x, "beat;"));
        Due.is("tape behind a text", 0, x.about(8));
        Due.is("fault is the latest's", 0, x.fault(0));
        Due.is("third", 2, Due.read(x, "beat;beat;"));
        Due.is("bad again", -1, Due.read(x, "hit 9,9;"));
        Due.is("fourth", 3, Due.read(x, "may 1=2;"));
        Due.is("bad once more", 0, x.fault(0));
        Due.is("fifth", -1, Due.read(x, "beat;?"));
        Due.is("tape stays", 6, x.about(8));
        Due.is("a text that isn't read has no fault", 0, x.fault(0));
        Due.is("texts", 4, x.about(5));
        Due.is("the third is as it was", -1, x.played(2));
        Due.is("its beats", 2, x.about(7));
    }

    /** What was read of texts with a fault, or of those that back took away, is no part of the next one. */
    private static void behindFaultyOnes() {
        SixHands x = new SixHands(3);
        x.figure(0, 1);
        Due.play(x, "enter 0 at 0;beat;");
        x.image();
        String sum = "+1".repeat(120);
        for (int i = 0; i < 6; i++) {
            Due.is("a long one with a fault", -1, Due.read(x, "may 0" + sum + "=120 and 1=1;exit"));
            Due.is("fault", 1, x.fault(0));
            Due.is("a long one", 1, Due.read(x, "shows seat" + sum + "=121;"));
            x.by(1);
            Due.is("not from seat 0", 0, x.sees(0, 0));
            Due.is("from seat 1", 1, x.sees(0, 1));
            Due.is("back", 1, x.back());
            Due.is("no law", 1, x.sees(0, 0));
            Due.is("no law", 1, Due.read(x, "beat;"));
            x.by(1);
            Due.is("without shows", 1, x.sees(0, 0));
            x.back();
        }
    }

    /** Bytes that end() took away are no part of the last token. */
    private static void cutTokens() {
        cut("exit 12;", 6, 1, 6);
        cut("beat;exit 10000;", 11, 1, 11);
        cut("beat;beatx", 9, 1, 9);
        cut("may 1<=2;", 6, 1, 6);
        cut("may 1<=(2", 8, 1, 8);
        cut("beat; x", 6, 0, -1);
        cut("beat;beat;", 5, 0, -1);
        String full = "beat;".repeat(49) + " ".repeat(49) + "exit 1";
        bad(full, 1, 300);
        bad("beat;".repeat(49) + " ".repeat(51) + "beat", 1, 300);
        bad("may 1<1;" + " ".repeat(286) + "pass 1", 1, 300);
        bad("may 1<1;" + " ".repeat(285) + "pass 1<", 1, 300);
    }

    private static void cut(String text, int length, int fault, int place) {
        SixHands x = new SixHands(8);
        Due.put(x, text);
        x.end(length);
        Due.is("text of " + length + " of " + text, fault == 0 ? 0 : -1, x.text());
        Due.is("fault", fault, x.fault(0));
        Due.is("place", place, x.fault(1));
    }
}
