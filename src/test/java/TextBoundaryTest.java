/** Boundary cases of the document, sentence by sentence: tokens, clauses, laws and faults (part II, promises 5 to 8). */
public final class TextBoundaryTest {
    private static final String COMMON = " figure kind place beat";
    /** Each token that there is, a word and a sign that are none, and numbers that may be and may not. */
    private static final String TOKENS = "or and not may pass shows enter exit go hit at who right from to seat many" + COMMON
        + " <= >= < > = # + - * / ( ) , ; 0 5 6 8 9999 10000 word ? ";
    private static final String OPERANDS = "0 5 6 8 9999 ( - who right" + COMMON;
    private static final String RECKONING = "+ - * /";
    private static final String COMPARING = "< <= > >= = #";

    private TextBoundaryTest() { }

    public static void main(String[] args) {
        fourTexts();
        blanks();
        letters();
        digits();
        longestSigns();
        clauses();
        lawsOnce();
        deeds();
        eithers();
        boths();
        asks();
        sums();
        products();
        ones();
        names();
        rightHands();
        passNames();
        manyAtAPlace();
        fromTheLeft();
        cutsTowardsZero();
        aMillion();
        bothSides();
        firstFault();
        leastFault();
        faultOne();
        faultTwo();
        faultThree();
        faultFour();
        faultFive();
        faultSix();
        bytesInOrder();
        tapeIsFull();
        tapeIsCut();
        endRefused();
        textsByNumber();
        behindFaults();
        textRefused();
        latestFault();
        faultRefused();
        Due.close();
    }

    private static void good(String text) {
        bad(text, 0, -1);
    }

    private static void bad(String text, int fault, int place) {
        SixHands x = new SixHands(8);
        String shown = text.length() > 60 ? text.substring(0, 60) + ".." : text;
        Due.is("text " + shown, fault == 0 ? 0 : -1, Due.read(x, text));
        Due.is("fault of " + shown, fault, x.fault(0));
        Due.is("its place", place, x.fault(1));
        Due.is("texts", fault == 0 ? 1 : 0, x.about(5));
    }

    /** Behind some tokens only those told can stand: then the end is the fault, else the token itself. */
    private static void behind(String ahead, String can) {
        for (String token : TOKENS.trim().split(" ")) {
            String text = ahead + " " + token;
            if (has(can, token)) {
                bad(text, 1, text.length());
            } else {
                bad(text, 1, ahead.length() + 1);
            }
        }
    }

    private static boolean has(String tokens, String token) {
        return (" " + tokens + " ").contains(" " + token + " ");
    }

    /** As behind, where a SUM is due, so that names of other clauses and numbers that are too high have faults of their own. */
    private static void sumBehind(String ahead, String more) {
        for (String token : TOKENS.trim().split(" ")) {
            String text = ahead + " " + token;
            if (has(OPERANDS + " " + more, token)) {
                bad(text, 1, text.length());
            } else if (token.equals("10000")) {
                bad(text, 2, ahead.length() + 1);
            } else {
                bad(text, has("from to seat many", token) ? 5 : 1, ahead.length() + 1);
            }
        }
    }

    private static void fourTexts() {
        Due.says(0, "TEXTS 0 .. 3: of up to 300 bytes.");
        SixHands x = new SixHands(3);
        for (int text = 0; text < 4; text++) {
            Due.is("none such yet", -2, x.played(text));
            Due.is("text", text, Due.read(x, "\n".repeat(295) + "beat;"));
            Due.is("all of it is read", -1, x.played(text));
            Due.is("its last bytes too", text + 1, x.about(7));
        }
        Due.is("a fifth", -1, Due.read(x, "beat;"));
        Due.is("no fifth", -2, x.played(4));
        good("");
        good("may " + "1+".repeat(146) + "1=1;");
        bad(" ".repeat(299) + "?", 1, 299);
    }

    private static void blanks() {
        Due.says(0, "TOKENS, blanks (32, 10) aside:");
        good(" ");
        good("\n");
        good(" \n \n\n  ");
        good("\n hit\n\n0 ,\n 1 ;\n \n");
        good("beat;".repeat(3) + " \n");
        for (int sign = 0; sign < 256; sign++) {
            if (sign == 32 || sign == 10) {
                good((char) sign + "beat;");
                good("beat" + (char) sign + ";");
                good("beat;" + (char) sign);
            } else {
                bad((char) sign + " beat;", 1, 0);
                bad("beat;" + (char) sign, 1, 5);
            }
        }
        bad("be at;", 1, 0);
        bad("exit 1 0;", 1, 7);
    }

    private static void letters() {
        Due.says(0, "letters a .. z, A .. Z one behind the other (one TOKEN),");
        for (int sign = 0; sign < 256; sign++) {
            boolean isLetter = sign >= 'a' && sign <= 'z' || sign >= 'A' && sign <= 'Z';
            String text = "beat;beat" + (char) sign + ";";
            if (isLetter) {
                bad(text, 1, 5);
                bad("beat;" + (char) sign + "beat;", 1, 5);
            } else if (sign == 32 || sign == 10) {
                good(text);
            } else {
                bad(text, 1, sign == ';' ? 10 : 9);
            }
        }
        bad("BEAT;", 1, 0);
        bad("beaT;", 1, 0);
        bad("x".repeat(300), 1, 0);
        good("may who=1or 1=1;");
        bad("may who=1 orwho=1;", 1, 10);
        // Longer than any word, by a letter and by many; the first letters alone would stand there.
        for (String word : new String[] {"ororor", "ororoor", "or" + "x".repeat(5), "andandand", "figuref"}) {
            bad("may 1=1 " + word + " 1=1;", 1, 8);
        }
        bad("may figuref=1;", 1, 4);
    }

    private static void digits() {
        Due.says(0, "digits likewise (NUMBERS, 0 .. 9999),");
        for (int sign = 0; sign < 256; sign++) {
            String text = "exit 1" + (char) sign + "2;";
            if (sign >= '0' && sign <= '9') {
                bad(text, 2, 5);
                good("may 9" + (char) sign + "99=1;");
            } else if (sign == 32 || sign == 10 || sign == ';') {
                bad(text, 1, 7);
            } else {
                bad(text, 1, 6);
            }
        }
        good("may 0=9999;");
        good("may 00=" + "0".repeat(200) + "9999;");
        good("exit 000005;");
        good("may 12*who=1;");
        bad("may 12who=1;", 1, 6);
        bad("may 10000=1;", 2, 4);
        // 2 to the powers 31, 32 and 64, and a bit more: none of them may come round to a small number.
        for (String high : new String[] {"2147483647", "2147483648", "4294967295", "4294967296", "4294967299", "18446744073709551616",
            "18446744073709551619", "1" + "0".repeat(100), "9".repeat(280)}) {
            bad("exit " + high + ";", 2, 5);
            bad("may 1=" + high + ";", 2, 6);
        }
    }

    private static void longestSigns() {
        Due.says(0, "<= >= < > = # + - * / ( ) , ; (the longest).");
        for (String sign : COMPARING.split(" ")) {
            good("may 1" + sign + "1;");
            good("may 1" + sign + "-1;");
            bad("may 1" + sign, 1, 5 + sign.length());
            bad("may 1" + sign + "+1;", 1, 5 + sign.length());
            bad("may 1" + sign + " =1;", 1, 6 + sign.length());
        }
        bad("may 1<==1;", 1, 7);
        bad("may 1>==1;", 1, 7);
        bad("may 1==1;", 1, 6);
        bad("may 1#=1;", 1, 6);
        bad("may 1=<1;", 1, 6);
        bad("may 1<>1;", 1, 6);
        bad("may 1<<=1;", 1, 6);
        Due.yes("1<=1 is one sign", shows("1<=1"));
        Due.yes("1>=1 is one sign", shows("1>=1"));
        SixHands x = new SixHands(3);
        Due.put(x, "may 1<=1;");
        x.end(6);
        Due.is("the sign's second byte was cut away", -1, x.text());
        Due.is("so the end is the fault", 6, x.fault(1));
    }

    private static void clauses() {
        Due.says(0, "{CLAUSE}, 50 at most:");
        good("");
        good("beat;");
        good("beat;".repeat(50));
        bad("beat;".repeat(51), 6, 250);
        good("may 1=1;pass 1=1;shows 1=1;" + "beat;".repeat(47));
        bad("may 1=1;pass 1=1;shows 1=1;" + "beat;".repeat(48), 6, 262);
        SixHands x = new SixHands(3);
        x.figure(0, 1);
        // Fifty that can all be done have more than 300 bytes, so this is the last one that can be come to.
        Due.is("the 49th can't be", 48, Due.play(x, "enter0at0;" + "go0to0;".repeat(23) + "beat;".repeat(25)));
        Due.is("all ahead of it are done", 24, x.about(10));
    }

    private static void lawsOnce() {
        Due.says(0, "may EITHER ; or pass EITHER ; or shows EITHER ; (each once)");
        good("may 1=1;pass 1=1;shows 1=1;");
        good("shows 1=1;pass 1=1;may 1=1;");
        for (String law : new String[] {"may", "pass", "shows"}) {
            good(law + " 1=1;");
            bad(law, 1, law.length());
            bad(law + ";", 1, law.length());
            bad(law + " 1=1", 1, law.length() + 4);
            bad(law + " 1=1;" + law + " 1=1;", 4, law.length() + 5);
            bad(law + " 1=1,", 1, law.length() + 4);
        }
    }

    private static void deeds() {
        Due.says(0, "or enter NUMBER at NUMBER ; or exit NUMBER ; or go NUMBER to NUMBER ; or hit NUMBER , NUMBER ; or beat ;.");
        behind("", "may pass shows enter exit go hit beat");
        String[] forms = {"enter 5 at 7 ;", "exit 0 ;", "go 0 to 0 ;", "hit 5 , 5 ;", "beat ;"};
        for (String form : forms) {
            good(form);
            String[] due = form.split(" ");
            StringBuilder ahead = new StringBuilder(due[0]);
            for (int i = 1; i < due.length; i++) {
                bad(ahead.toString(), 1, ahead.length());
                if (!Character.isDigit(due[i].charAt(0))) {
                    other(ahead.toString(), due[i]);
                } else {
                    numberBehind(ahead.toString(), i == 3 && !due[2].equals(",") ? 7 : 5);
                }
                ahead.append(' ').append(due[i]);
            }
            good(form + form);
        }
    }

    /** Behind a whole form's part one token alone can stand; behind ; a clause is ended. */
    private static void other(String ahead, String due) {
        for (String token : TOKENS.trim().split(" ")) {
            if (!token.equals(due)) {
                bad(ahead + " " + token, 1, ahead.length() + 1);
            }
        }
    }

    private static void numberBehind(String ahead, int most) {
        for (String token : TOKENS.trim().split(" ")) {
            String text = ahead + " " + token;
            if (!Character.isDigit(token.charAt(0))) {
                bad(text, 1, ahead.length() + 1);
            } else if (Integer.parseInt(token) <= most) {
                bad(text, 1, text.length());
            } else {
                bad(text, 2, ahead.length() + 1);
            }
        }
    }

    private static void eithers() {
        Due.says(0, "EITHER: BOTH {or BOTH}.");
        good("may 1=1;");
        good("may 1=1 or 1=1;");
        good("may 1=1" + " or 1=1".repeat(41) + ";");
        sumBehind("may", "not");
        sumBehind("may 1=1 or", "not");
        bad("may 1=1 or;", 1, 10);
        bad("may or 1=1;", 1, 4);
        Due.yes("none but the last", shows("1=2 or 1=2 or 1=1"));
        Due.yes("none but the first", shows("1=1 or 1=2 or 1=2"));
        Due.no("none", shows("1=2 or 1=2 or 1=2"));
    }

    private static void boths() {
        Due.says(0, "BOTH: ASK {and ASK}.");
        good("may 1=1" + " and 1=1".repeat(36) + ";");
        sumBehind("may 1=1 and", "not");
        bad("may 1=1 and;", 1, 11);
        bad("may and 1=1;", 1, 4);
        Due.yes("all", shows("1=1 and 1=1 and 1=1"));
        Due.no("all but the first", shows("1=2 and 1=1 and 1=1"));
        Due.no("all but the last", shows("1=1 and 1=1 and 1=2"));
        Due.yes("and binds tighter than or", shows("1=1 or 1=1 and 1=2"));
        Due.yes("on the other side too", shows("1=2 and 1=1 or 1=1"));
    }

    private static void asks() {
        Due.says(0, "ASK: not ASK, or SUM one of < <= > >= = # (unlike) SUM.");
        sumBehind("may not", "not");
        sumBehind("may 1=1 or not not", "not");
        sumBehind("may 1=", "");
        behind("may 1", RECKONING + " " + COMPARING);
        behind("may not who", RECKONING + " " + COMPARING);
        behindAsk("may 1=1");
        behindAsk("may not 1<=who");
        Due.yes("not is of one ask", shows("not 1=2 and 1=1"));
        Due.no("not is of one ask alone", shows("not 1=2 and 1=2"));
        Due.yes("twice", shows("not not 1=1"));
        int[][] sides = {{1, 2}, {2, 2}, {3, 2}, {-1, 0}, {0, -1}};
        for (int[] s : sides) {
            compared(s[0], "<", s[1], s[0] < s[1]);
            compared(s[0], "<=", s[1], s[0] <= s[1]);
            compared(s[0], ">", s[1], s[0] > s[1]);
            compared(s[0], ">=", s[1], s[0] >= s[1]);
            compared(s[0], "=", s[1], s[0] == s[1]);
            compared(s[0], "#", s[1], s[0] != s[1]);
        }
    }

    private static void compared(int left, String sign, int right, boolean due) {
        String ask = left + sign + right;
        Due.is(ask, due ? 1 : 0, shows(ask) ? 1 : 0);
        Due.is("not " + ask, due ? 0 : 1, shows("not " + ask) ? 1 : 0);
        for (String so : new String[] {"1=1", "1#2", "1<2", "1<=1", "2>1", "1>=1"}) {
            Due.is(ask + " and " + so, due ? 1 : 0, shows(ask + " and " + so) ? 1 : 0);
            Due.is("not " + so + " or " + ask, due ? 1 : 0, shows("not " + so + " or " + ask) ? 1 : 0);
        }
    }

    /** Behind a whole ask ; ends the clause, so that the end is no fault. */
    private static void behindAsk(String ahead) {
        for (String token : TOKENS.trim().split(" ")) {
            String text = ahead + " " + token;
            if (token.equals(";")) {
                good(text);
            } else {
                bad(text, 1, has(RECKONING + " or and", token) ? text.length() : ahead.length() + 1);
            }
        }
    }

    private static void sums() {
        Due.says(0, "SUM: PRODUCT {+ or - PRODUCT}.");
        good("may " + "1-".repeat(145) + "1=1;");
        sumBehind("may 1+", "");
        sumBehind("may 1=1-", "");
        bad("may +1=1;", 1, 4);
        bad("may 1+=1;", 1, 6);
        bad("may 1=1+;", 1, 8);
    }

    private static void products() {
        Due.says(0, "PRODUCT: ONE {* or / ONE}.");
        good("may " + "1*".repeat(145) + "1=1;");
        sumBehind("may 1*", "");
        sumBehind("may 1=1/", "");
        bad("may *1=1;", 1, 4);
        bad("may 1/=1;", 1, 6);
        bad("may 1=1*;", 1, 8);
        Due.yes("* binds tighter than +", shows("1+2*3=7"));
        Due.yes("on the other side too", shows("2*3+1=7"));
        Due.yes("/ binds tighter than -", shows("7-6/2=4"));
    }

    private static void ones() {
        Due.says(0, "ONE: NUMBER, NAME, ( SUM ), - ONE.");
        sumBehind("may (", "");
        sumBehind("may -", "");
        sumBehind("may 1=- (", "");
        behind("may (1", RECKONING + " )");
        behind("may 1=((who)", RECKONING + " )");
        behind("may (1)", RECKONING + " " + COMPARING);
        behindAsk("may 1=(1)");
        behindAsk("may 1=-who");
        bad("may ()=1;", 1, 5);
        bad("may (1=1);", 1, 6);
        bad("may (not 1=1);", 1, 5);
        Due.yes("- is of one ONE", shows("-2*3=0-6"));
        Due.yes("- ahead of *", shows("2*-3+7=1"));
        Due.yes("- of a sum", shows("-(2-3)=1"));
        Due.yes("- of -", shows("--2=2"));
    }

    private static void names() {
        Due.says(0, "NAMES: figure kind place beat of all three; of may: who (the PUPPETEER),");
        for (String name : COMMON.trim().split(" ")) {
            good("may " + name + "=1;pass " + name + "=1;shows " + name + "=1;");
        }
        SixHands x = new SixHands(8);
        for (int i = 0; i < 3; i++) {
            x.puppeteer(0, 7);
        }
        for (int i = 0; i < 6; i++) {
            x.figure(i == 5 ? 2 : 0, 1);
        }
        x.rules(6, 0);
        Due.play(x, "beat;".repeat(23) + "enter 5 at 7;beat;");
        Due.rule(x, "may figure=5 and kind=2 and place=7 and beat=23 and who=2;");
        Due.is("the highest of all", 48, x.found(7, 23, 5));
        SixHands y = Booths.glove(0, 1, 1);
        Due.rule(y, "may figure=0 and kind=0 and place=0 and beat=0 and who=0;");
        Due.is("the lowest of all", 1, y.found(1, 0, 0));
    }

    private static void passNames() {
        Due.says(0, "of pass: from, to (PUPPETEERS);");
        SixHands z = Booths.glove(7, 24, 3);
        Due.rule(z, "may who=0 and beat<23 or who=2 and beat=23;pass from=0 and to=2 and beat=23 and place=7;");
        Due.is("from the lowest to the highest", 1, z.fewest(7));
        Due.is("at the last beat", 16, z.found(7, 23, 0));
        Due.rule(z, "may who=2 and beat<23 or who=0 and beat=23;pass from=2 and to=0;");
        Due.is("from the highest to the lowest", 1, z.fewest(7));
        Due.rule(z, "may who=1 and right=beat-beat/2*2;pass from=to;");
        Due.is("from one hand of one to the other", 23, z.fewest(7));
    }

    private static void rightHands() {
        Due.says(0, "right (1: of a right HAND alone, else 0);");
        for (int kind = 0; kind <= 2; kind++) {
            SixHands x = new SixHands(3);
            x.puppeteer(0, 2);
            x.puppeteer(0, 2);
            x.figure(kind, 1);
            x.rules(1, 0);
            Due.play(x, "enter 0 at 2;beat;");
            Due.rule(x, "may right=1;");
            Due.is("right hands, kind " + kind, kind == 2 ? -1 : 8, x.found(2, 0, 0));
            Due.rule(x, "may right=0;");
            Due.is("others, kind " + kind, kind == 2 ? 12 : 4, x.found(2, 0, 0));
        }
    }

    private static void manyAtAPlace() {
        Due.says(0, "of shows: seat, many (how many FIGURES are at that PLACE).");
        for (int many = 1; many <= 6; many++) {
            SixHands x = new SixHands(8);
            int[] places = new int[6];
            for (int i = 0; i < 6; i++) {
                places[i] = i < many ? 7 : i;
            }
            Booths.stand(x, places);
            // Those that are there in the next beat don't count in this one.
            Due.play(x, many < 6 ? "go 0 to 6;beat;" : "beat;");
            Due.rule(x, "shows many=" + many + " and place=7 and seat=7;");
            Due.is(many + " at one place", (1 << many) - 1, x.sees(0, 7));
            Due.is("from another seat", 0, x.sees(0, 6));
            Due.rule(x, "shows many=0 or many>6;");
            Due.is("never none, never seven", 0, x.sees(0, 7));
        }
    }

    /** Whether shows lets a figure be seen by some ask. */
    private static boolean shows(String ask) {
        SixHands x = new SixHands(3);
        x.figure(0, 1);
        Due.play(x, "enter 0 at 1;beat;");
        Due.rule(x, "shows " + ask + ";");
        return x.sees(0, 0) == 1;
    }

    private static void fromTheLeft() {
        Due.says(0, "From the left;");
        for (String ask : new String[] {"10-3-2=5", "10-3+2=9", "100/10/5=2", "100/10*5=50", "7/2*2=6", "2*7/2=7", "1/2*2=0"}) {
            Due.yes(ask, shows(ask));
        }
    }

    private static void cutsTowardsZero() {
        Due.says(0, "/ cuts towards 0, by 0 it is 0;");
        for (String ask : new String[] {"7/2=3", "-7/2=-3", "7/-2=-3", "-7/-2=3", "1/2=0", "-1/2=0", "1/-2=0", "6/3=2", "-6/3=-2",
            "0/5=0", "0/0=0", "5/0=0", "-5/0=0", "9999/(1-1)=0", "1/0+1=1", "5/(1/2)=0", "1/1=1", "9999/9999=1", "9998/9999=0",
            "(9999*9999)/-1=-9999*9999", "-(9999*9999)/-1=9999*9999"}) {
            Due.yes(ask, shows(ask));
        }
    }

    private static void aMillion() {
        Due.says(0, "what is above 1000000 (below the same less) is that, at each step.");
        String high = "9999*100+";
        for (String ask : new String[] {high + "99-9999*100=99", high + "100-9999*100=100", high + "101-9999*100=100",
            high + "9999-9999*100=100", "1000*1000-999=9990*100+1", "1000*1001-999=9990*100+1", "1000*1000+1=1000*1000",
            "0-9999*100-99+9999*100=-99", "0-9999*100-100+9999*100=-100", "0-9999*100-101+9999*100=-100",
            "-1000*1001+999=0-999*1000-1", "-(1000*1000)=-1000*1000", "9999*9999-9999=9900*100+1",
            "0-9999*9999+9999=0-9900*100-1", "9999*9999*9999*9999=1000*1000", "-9999*9999*9999*9999=-1000*1000",
            "9999*9999*(9999*9999)=1000*1000", "-(9999*9999)*(9999*9999)=-1000*1000", "1000*1000*4295=1000*1000",
            "1000*1000*-2148=-1000*1000", "9999*9999/1000=1000", "1000*1000+1000*1000-1000*1000=0", "999*1001=9999*100+99"}) {
            Due.yes(ask, shows(ask));
        }
    }

    private static void bothSides() {
        Due.says(0, "or and and look at both sides always.");
        Due.yes("or behind what is so", shows("1=1 or 1/0=1"));
        Due.no("and behind what isn't", shows("1=2 and 1/0=0"));
        bad("shows 1=1 or who=1;", 5, 13);
        bad("shows 1=2 and 10000=1;", 2, 14);
    }

    private static void firstFault() {
        Due.says(0, "FAULTS, the first as TOKENS are come to, at the TOKEN's first byte (of the end at the length),");
        bad("exit 6;beat", 2, 5);
        bad("beat;exit 9;may may", 2, 10);
        bad("may from=1", 5, 4);
        bad("may 1=1;may from=1;", 4, 8);
        bad("may 10000=from;", 2, 4);
        bad("may from=10000;", 5, 4);
        bad("may 1 1=10000;", 1, 6);
        bad("  \n word ", 1, 4);
        bad("exit   10000  ;", 2, 7);
        bad("beat", 1, 4);
        bad("beat \n ", 1, 7);
        bad("beat" + " ".repeat(296), 1, 300);
        bad("may 1=1 and" + "\n".repeat(289), 1, 300);
        bad(" ".repeat(296) + "beat", 1, 300);
    }

    private static void leastFault() {
        Due.says(0, "of one the least:");
        String fifty = "beat;".repeat(50);
        bad("may 1 10000", 1, 6);
        bad("enter 0 10000", 1, 8);
        bad("may ((((((((1(", 1, 13);
        bad("may ((((((((not", 1, 12);
        bad("may ((((((((1)))))))) not", 1, 22);
        bad("may 1 from", 1, 6);
        bad("exit from;", 1, 5);
        bad("may 1=1;" + "beat;".repeat(49) + "may", 4, 253);
        bad(fifty + "word", 1, 250);
        bad(fifty + "who", 1, 250);
        bad(fifty + "10000", 1, 250);
        bad(fifty + "?", 1, 250);
        bad(fifty + ";", 1, 250);
        bad("exit 10000;", 2, 5);
        bad(fifty + "exit 6;", 6, 250);
    }

    private static void faultOne() {
        Due.says(0, "1 it can't stand there, or is none.");
        bad("word;", 1, 0);
        bad("may word=1;", 1, 4);
        bad("may 1=word;", 1, 6);
        bad("exit word;", 1, 5);
        bad("beat;" + (char) 255, 1, 5);
        bad("" + (char) 0, 1, 0);
        bad("may 1=1;;", 1, 8);
        bad(";", 1, 0);
        bad("7", 1, 0);
    }

    private static void faultTwo() {
        Due.says(0, "2 a NUMBER that isn't one of those told (above 9999; a FIGURE 0 .. 5, a PLACE 0 .. 7).");
        for (int figure = 0; figure <= 7; figure++) {
            for (String form : new String[] {"exit N;", "enter N at 0;", "go N to 7;", "hit N,0;", "hit 0,N;"}) {
                bad(form.replace("N", "" + figure), figure <= 5 ? 0 : 2, figure <= 5 ? -1 : form.indexOf('N'));
            }
        }
        for (int place = 0; place <= 9; place++) {
            for (String form : new String[] {"enter 0 at N;", "go 5 to N;"}) {
                bad(form.replace("N", "" + place), place <= 7 ? 0 : 2, place <= 7 ? -1 : form.indexOf('N'));
            }
        }
        for (String law : new String[] {"may", "pass", "shows"}) {
            good(law + " 9999=9999;");
            bad(law + " 9999=10000;", 2, law.length() + 6);
            bad(law + " (-10000)=1;", 2, law.length() + 3);
        }
        SixHands small = new SixHands(3);
        Due.is("a figure and a place that aren't there are no fault", 0, Due.read(small, "enter 5 at 7;"));
    }

    private static void faultThree() {
        Due.says(0, "3 the 9th of ( not and - (of one ONE) that are open around one another (at it).");
        for (int open = 1; open <= 10; open++) {
            deep("may " + "(".repeat(open) + "1" + ")".repeat(open) + "=1;", open, 12);
            deep("may 1=" + "(".repeat(open) + "1" + ")".repeat(open) + ";", open, 14);
            deep("may " + "-".repeat(open) + "1=1;", open, 12);
            deep("may " + "not ".repeat(open) + "1=1;", open, 36);
            deep("may not 1=1 and " + "not ".repeat(open) + "1=1;", open, 48);
            deep("may (1)*-1+" + "(".repeat(open) + "1" + ")".repeat(open) + "=1;", open, 19);
        }
        good("may not not not (-(-(1)))=1;");
        good("may not not not (-(-(1)))=(-(-(1)));");
        bad("may not not not (-(-(1)))=(-(-(--1)));", 3, 31);
        bad("may not not not not not not not not 1=1+(1);", 3, 40);
        good("may not not not not not not not not 1=1 and (1)=1;");
        good("may ((((((((1))))))))+((((((((1))))))))=1;");
        bad("may (((((((-(1))))))))=1;", 3, 12);
        good("may (((((((1-(1))))))))=1;");
        good("may " + "-1+".repeat(20) + "1=1;");
        good("may " + "(1)+".repeat(20) + "1=1;");
        good("may not 1=1" + " or not 1=1".repeat(20) + ";");
        good("may --------1--------1=1;");
        bad("may --------1----------1=1;", 3, 22);
    }

    private static void deep(String text, int open, int ninth) {
        bad(text, open <= 8 ? 0 : 3, open <= 8 ? -1 : ninth);
    }

    private static void faultFour() {
        Due.says(0, "4 may, pass, shows for the second time (at it).");
        bad("may 1=1;may 1=1;", 4, 8);
        bad("pass 1=1; pass", 4, 10);
        bad("shows 1=1;beat;\nshows 1=1;", 4, 16);
        bad("may 1=1;pass 1=1;shows 1=1;may", 4, 27);
        bad("may 1=1;pass 1=1;shows 1=1;pass", 4, 27);
        bad("may 1=1;may", 4, 8);
        SixHands x = new SixHands(3);
        Due.is("once in each text", 0, Due.read(x, "may 1=1;"));
        Due.is("once in each text", 1, Due.read(x, "may 1=1;"));
        Due.is("a fault", -1, Due.read(x, "may 1=1;exit"));
        Due.is("not behind a text with a fault", 2, Due.read(x, "may 1=1;"));
    }

    private static void faultFive() {
        Due.says(0, "5 a NAME that isn't of that CLAUSE (at it).");
        String[] laws = {"may", "pass", "shows"};
        String[] own = {"who right", "from to", "seat many"};
        for (int law = 0; law < 3; law++) {
            for (int names = 0; names < 3; names++) {
                for (String name : own[names].split(" ")) {
                    int fault = law == names ? 0 : 5;
                    bad(laws[law] + " " + name + "=1;", fault, fault == 0 ? -1 : laws[law].length() + 1);
                    bad(laws[law] + " 1=-(" + name + ");", fault, fault == 0 ? -1 : laws[law].length() + 5);
                }
            }
        }
        for (String word : new String[] {"at", "enter", "may", "Figure", "figures", "whos", "x"}) {
            bad("may " + word + "=1;", 1, 4);
        }
    }

    private static void faultSix() {
        Due.says(0, "6 the 51st CLAUSE (at its first TOKEN).");
        String fifty = "beat;".repeat(50);
        for (String verb : new String[] {"may", "pass", "shows", "enter", "exit", "go", "hit", "beat"}) {
            bad(fifty + verb, 6, 250);
            bad(fifty + " \n" + verb + " ?", 6, 252);
        }
        good(fifty);
        good(fifty + " \n");
        bad("beat;".repeat(49) + "beat", 1, 249);
    }

    /** Promise 5. */
    private static void bytesInOrder() {
        Due.says(5, "Twenty bytes come behind the tape, the highest of a first: how many it has.");
        SixHands x = new SixHands(8);
        Due.is("twenty", 20, x.feed(0x20206869, 0x7420350A, 0x2C302020, 0x3B626561, 0x743B2065));
        Due.is("forty", 40, x.feed(0x78697420, 0x373B0000, 0, 0, 0));
        Due.is("a fault", -1, x.text());
        Due.is("at the 25th byte", 24, x.fault(1));
        Due.is("that number", 2, x.fault(0));
        for (int place = 0; place < 20; place++) {
            int[] w = new int[5];
            java.util.Arrays.fill(w, 0x20202020);
            w[place / 4] ^= (0x20 ^ 0xE2) << 24 - 8 * (place % 4);
            x.feed(w[0], w[1], w[2], w[3], w[4]);
            Due.is("a byte above 127", -1, x.text());
            Due.is("where it is", place, x.fault(1));
        }
    }

    private static void tapeIsFull() {
        Due.says(5, "NONE, and none come, if there would be more than 300.");
        SixHands x = new SixHands(8);
        int[] w = Due.words("beat;               ").get(0);
        for (int fed = 20; fed <= 300; fed += 20) {
            Due.is("so far", fed, x.feed(w[0], w[1], w[2], w[3], w[4]));
        }
        for (int length = 300; length > 280; length--) {
            Due.is("cut", length, x.end(length));
            Due.is("to more than 300", -1, x.feed(-1, -1, -1, -1, -1));
            Due.is("none came", length, x.about(8));
        }
        x.end(280);
        Due.is("to 300", 300, x.feed(w[0], w[1], w[2], w[3], w[4]));
        Due.is("nothing strange is on it", 0, x.text());
        x.played(0);
        Due.is("all fifteen", 15, x.about(7));
        Due.is("the tape is empty", 20, x.feed(0, 0, 0, 0, 0));
        Portrait.stays("a full tape", Booths::full, full -> Due.is("no more", -1, full.feed(1, 2, 3, 4, 5)));
    }

    /** Promise 6. */
    private static void tapeIsCut() {
        Due.says(6, "The tape has its first n bytes alone: n.");
        SixHands x = new SixHands(8);
        Due.is("none of none", 0, x.end(0));
        for (int length = 300; length >= 0; length--) {
            if (length % 50 < 2) {
                Due.put(x, "beat;".repeat(60));
                Due.is("end(" + length + ")", length, x.end(length));
                Due.is("bytes", length, x.about(8));
                Due.is("again", length, x.end(length));
            }
        }
        Due.put(x, "beat;exit 0;beat;");
        x.end(5);
        x.feed(0x68697420, 0x302C303B, 0x20202020, 0x20202020, 0x20202020);
        Due.is("bytes come behind them", 25, x.about(8));
        Due.is("both are the text", 0, x.text());
        Due.is("beat; hit 0,0;", 1, x.played(0));
        // The last token ends where the tape was cut, whatever stood behind it.
        cut("exit 19;", 6, 6);
        cut("may 1=99999;", 10, 10);
        cut("beat;beats;", 9, 9);
        cut("may 1<=1;", 6, 6);
        cut("beat;  ?", 6, -1);
    }

    private static void cut(String text, int length, int place) {
        SixHands x = new SixHands(8);
        Due.put(x, text);
        x.end(length);
        Due.is(length + " bytes of " + text, place < 0 ? 0 : -1, x.text());
        Due.is("its fault", place < 0 ? 0 : 1, x.fault(0));
        Due.is("its place", place, x.fault(1));
    }

    private static void endRefused() {
        Due.says(6, "NONE, and nothing is done, if it has not so many, or n is below 0.");
        Portrait.stays("n of others", Booths::ripe, x -> {
            int length = x.about(8);
            for (int n : new int[] {-1, -2, -300, length + 1, length + 2, 299, 300, 301, 320, 65536, 65536 + 3, 1 << 30}) {
                Due.is("end(" + n + ")", -1, x.end(n));
            }
            Due.is("the least", -1, x.end(Integer.MIN_VALUE));
            Due.is("the most", -1, x.end(Integer.MAX_VALUE));
        });
        SixHands x = new SixHands(3);
        Due.is("end(1) of none", -1, x.end(1));
        Due.put(x, "beat;beat;");
        x.end(5);
        Due.is("what was cut doesn't come again", -1, x.end(10));
    }

    /** Promise 7. */
    private static void textsByNumber() {
        Due.says(7, "The tape (empty then) is a TEXT: its number.");
        SixHands x = new SixHands(3);
        Due.is("an empty tape is one", 0, x.text());
        Due.put(x, "beat;");
        Due.is("the next", 1, x.text());
        Due.is("the tape is empty", 0, x.about(8));
        Due.is("nothing more is on it", 2, x.text());
        Due.is("no clause", -1, x.played(2));
        Due.is("no beat", 0, x.about(7));
        Due.is("it can't be longer again", -1, x.end(1));
        Due.read(x, "beat;?");
        Due.is("behind one with a fault", 3, Due.read(x, "beat;beat;"));
        x.played(3);
        Due.is("its beats", 2, x.about(7));
        x.played(1);
        Due.is("the second is as it was", 3, x.about(7));
    }

    private static void behindFaults() {
        Due.says(7, "The tape (empty then) is a TEXT: its number.");
        String law = "may not (1+(2*-(1-1)))=1 and not -who*2/1<=3 or 1=1;";
        for (int length = 0; length < law.length(); length++) {
            SixHands x = new SixHands(3);
            x.figure(0, 1);
            Due.play(x, "enter 0 at 1;beat;");
            // What was read of it, to its fault, is no part of the next ones.
            Due.read(x, law.substring(0, length) + " ?");
            Due.is("text", 1, Due.read(x, "shows ((((((((seat))))))))=1;"));
            x.by(1);
            Due.is("from seat 1", 1, x.sees(0, 1));
            Due.is("not from seat 0", 0, x.sees(0, 0));
        }
        SixHands x = new SixHands(3);
        x.figure(0, 1);
        Due.play(x, "enter 0 at 1;beat;");
        for (int i = 0; i < 12; i++) {
            Due.is("a fault", -1, Due.read(x, "shows ((((((((1+" + "1+".repeat(120) + "?"));
            Due.is("a fault behind a law", -1, Due.read(x, "shows not " + "1+".repeat(120) + "1=1;exit"));
            Due.is("its place", 258, x.fault(1));
        }
        Due.is("text", 1, Due.read(x, "shows seat=1;"));
        x.by(1);
        Due.is("from seat 1", 1, x.sees(0, 1));
        Due.is("not from seat 0", 0, x.sees(0, 0));
        Due.is("a fault behind a law", -1, Due.read(x, "shows not 1=1;exit"));
        Due.is("text", 2, Due.read(x, "shows 1=1;"));
        x.by(2);
        Due.is("seen", 1, x.sees(0, 0));
    }

    private static void textRefused() {
        Due.says(7, "NONE: it has a FAULT; or (the tape stays) there are 4.");
        SixHands x = new SixHands(3);
        Due.is("a fault", -1, Due.read(x, "beat"));
        Due.is("the tape is empty", 0, x.about(8));
        Due.is("no text", 0, x.about(5));
        for (int text = 0; text < 4; text++) {
            Due.is("text", text, Due.read(x, "beat;"));
        }
        Due.put(x, "exit 9;");
        Due.is("a fifth", -1, x.text());
        Due.is("the tape stays", 7, x.about(8));
        Due.is("there are 4", 4, x.about(5));
        Due.is("again", -1, x.text());
        Due.is("the tape stays", 7, x.about(8));
        x.back();
        Due.is("it is read when there is room", -1, x.text());
        Due.is("its fault", 2, x.fault(0));
        Due.is("its place", 5, x.fault(1));
        Portrait.stays("there are 4", Booths::full, full -> Due.is("a fifth", -1, full.text()));
    }

    /** Promise 8. */
    private static void latestFault() {
        Due.says(8, "Of the latest text that was read: 0 its FAULT (0 without), 1 its place (NONE without).");
        SixHands x = new SixHands(3);
        faults(x, "?", 1, 0);
        faults(x, "exit 6;", 2, 5);
        faults(x, "may ---------1=1;", 3, 12);
        faults(x, "may 1=1;may 1=1;", 4, 8);
        faults(x, "may to=1;", 5, 4);
        faults(x, "beat;".repeat(51), 6, 250);
        faults(x, "", 0, -1);
        faults(x, " ".repeat(299) + "?", 1, 299);
        faults(x, "beat" + " ".repeat(296), 1, 300);
        faults(x, "beat;", 0, -1);
        x.end(0);
        Due.is("not by end", 0, x.fault(0));
        faults(x, "beat", 1, 4);
        x.feed(0, 0, 0, 0, 0);
        Due.is("not by feed", 1, x.fault(0));
        x.clear();
        x.back();
        Due.is("not by back", 4, x.fault(1));
    }

    private static void faults(SixHands x, String text, int fault, int place) {
        Due.is("text", fault == 0 ? 1 : 0, Due.read(x, text) >= 0 ? 1 : 0);
        Due.is("fault", fault, x.fault(0));
        Due.is("place", place, x.fault(1));
    }

    private static void faultRefused() {
        Due.says(8, "NONE for others, and ahead of any.");
        SixHands x = new SixHands(3);
        for (int what = -1; what <= 2; what++) {
            Due.is("ahead of any", -1, x.fault(what));
        }
        Due.put(x, "?");
        Due.is("nothing was read yet", -1, x.fault(0));
        x.text();
        Due.is("now it was", 1, x.fault(0));
        for (int what : new int[] {-1, 2, 3, 10}) {
            Due.is("fault(" + what + ")", -1, x.fault(what));
        }
        for (int far : Booths.FAR) {
            Due.is("fault(" + far + ")", -1, x.fault(far));
        }
    }
}
