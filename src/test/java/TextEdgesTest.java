/** Term 2, promises 14 to 16: a test of its own for each sentence that names an edge. */
public final class TextEdgesTest extends Checks {
    private static final String DIGITS = "0123456789";
    private static final String SIGNS = "|&<=>+-*/%";
    private static final String[] NAMES = {"stghn", "wvstn", "sgwrk"};

    public static void main(String[] args) {
        feedOneToEight();
        feedLowestFirst();
        feedFull();
        tapeOfSixtyBytes();
        emptyTape();
        eachFirstByte();
        eachByteBehindANumber();
        eachByteBehindAName();
        eachByteBehindASign();
        eachByteInParentheses();
        numbersOfOneToFourDigits();
        comparedOnce();
        fiveOpenAtOnce();
        openOnesThatCloseAgain();
        endsTooEarly();
        noBlanks();
        intsWrap();
        quotientsAreCut();
        byNothingIsNothing();
        whatIsNotNothingIsTrue();
        comparesWithoutWrapping();
        allIsWorkedOut();
        faultIsNoError();
        faultLeavesTheOneAhead();
        usesBesideTheThree();
        untellTwice();
        lawWithoutAText();
        burstWithoutAText();
        burstOfCreamNever();
        markWithoutAText();
        lawOfTheLesser();
        ticksSoFar();
        end();
    }

    private static FoamHead one() {
        return foam(1, 1, 7);
    }

    private static void dueFault(int use, String text, int place) {
        due("text of " + text + " in " + use, text(one(), use, text), -10 - place);
    }

    private static void dueText(int use, String text) {
        due("text of " + text + " in " + use, text(one(), use, text), 1);
    }

    private static void dueValue(String text, int want) {
        FoamHead x = one();
        due("text of " + text, text(x, MARK, text), 1);
        due(text, x.bubbleIs(0, 8), want);
    }

    // ---- promise 14

    private static void feedOneToEight() {
        FoamHead x = one();
        due("feed(.., 0)", x.feed(0x31L, 0), BEYOND);
        due("feed(.., -1)", x.feed(0x31L, -1), BEYOND);
        due("feed(.., 9)", x.feed(0x31L, 9), BEYOND);
        due("count(4)", x.count(4), 0);
        due("feed(.., 1)", x.feed(0x2b2b2b2b2b2b2b31L, 1), 1);
        due("text: just the lowest byte", x.text(MARK), 1);
        due("mark", x.bubbleIs(0, 8), 1);
        due("feed(.., 8)", x.feed(0x392b382b372b362bL, 8), 8);
        due("text", x.text(MARK), -10);
        due("feed(.., 8)", x.feed(0x382b372b362b3531L, 8), 8);
        due("feed(.., 1)", x.feed(0x39L, 1), 9);
        due("text: 15+6+7+89", x.text(MARK), 1);
        due("mark", x.bubbleIs(0, 8), 15 + 6 + 7 + 89);
    }

    private static void feedLowestFirst() {
        FoamHead x = one();
        due("feed", x.feed('1' | '2' << 8 | '3' << 16, 3), 3);
        due("feed", x.feed('4' << 8 | '-', 2), 5);
        due("text", x.text(MARK), 1);
        due("mark: 123-4", x.bubbleIs(0, 8), 119);
        for (int n = 1; n <= 8; n++) {
            due("feed of bytes of 255", x.feed(-1L, n), n);
            due("text", x.text(MARK), -10);
        }
    }

    private static void feedFull() {
        for (int n = 1; n <= 8; n++) {
            FoamHead x = one();
            int held = 0;
            while (held + n <= 60) {
                held += n;
                due("feed", x.feed(0x3131313131313131L, n), held);
            }
            due("feed of " + n + " more", x.feed(0x3131313131313131L, n), FULL);
            due("count(4): none of them came", x.count(4), held);
            if (held < 60) {
                due("feed of what is left", x.feed(0x3131313131313131L, 60 - held), 60);
            }
            due("feed(.., 1) on 60", x.feed(0x31L, 1), FULL);
            due("count(4)", x.count(4), 60);
            due("told(4)", x.told(4), 2);
        }
    }

    private static void tapeOfSixtyBytes() {
        StringBuilder text = new StringBuilder("99");
        for (int i = 0; i < 29; i++) {
            text.append("+1");
        }
        due("bytes", text.length(), 60);
        dueValue(text.toString(), 128);
        text.setCharAt(59, '+');
        dueFault(MARK, text.toString(), 59);
        text.setCharAt(58, '1');
        text.setCharAt(59, '-');
        dueFault(MARK, text.toString(), 60);
        text.setLength(0);
        text.append("!w");
        while (text.length() < 60) {
            text.append("+s");
        }
        dueValue(text.toString(), 1 + 29);
    }

    // ---- promise 15: FAULTS

    private static void emptyTape() {
        for (int use = 0; use < 3; use++) {
            dueFault(use, "", 0);
        }
    }

    private static void eachFirstByte() {
        for (int use = 0; use < 3; use++) {
            for (int c = 0; c < 256; c++) {
                String text = "" + (char) c;
                if (DIGITS.indexOf(c) >= 0 || NAMES[use].indexOf(c) >= 0) {
                    dueText(use, text);
                } else {
                    dueFault(use, text, c == '!' || c == '(' ? 1 : 0);
                }
            }
        }
    }

    private static void eachByteBehindANumber() {
        for (int c = 0; c < 256; c++) {
            if (DIGITS.indexOf(c) >= 0) {
                dueText(MARK, "1" + (char) c);
            } else {
                dueFault(MARK, "1" + (char) c, SIGNS.indexOf(c) >= 0 ? 2 : 1);
            }
        }
    }

    private static void eachByteBehindAName() {
        for (int c = 0; c < 256; c++) {
            dueFault(LAW, "n" + (char) c, SIGNS.indexOf(c) >= 0 ? 2 : 1);
        }
    }

    private static void eachByteBehindASign() {
        for (int i = 0; i < SIGNS.length(); i++) {
            for (int c = 0; c < 256; c++) {
                String text = "1" + SIGNS.charAt(i) + (char) c;
                if (DIGITS.indexOf(c) >= 0 || NAMES[BURST].indexOf(c) >= 0) {
                    dueText(BURST, text);
                } else {
                    dueFault(BURST, text, c == '!' || c == '(' ? 3 : 2);
                }
            }
        }
    }

    private static void eachByteInParentheses() {
        for (int c = 0; c < 256; c++) {
            if (c == ')') {
                dueText(MARK, "(s)");
            } else {
                dueFault(MARK, "(s" + (char) c, SIGNS.indexOf(c) >= 0 ? 3 : 2);
            }
            dueFault(MARK, "(s)" + (char) c, SIGNS.indexOf(c) >= 0 ? 4 : 3);
        }
    }

    private static void numbersOfOneToFourDigits() {
        dueValue("0", 0);
        dueValue("9", 9);
        dueValue("99", 99);
        dueValue("999", 999);
        dueValue("9999", 9999);
        dueValue("0000", 0);
        dueValue("0012", 12);
        dueFault(MARK, "10000", 4);
        dueFault(MARK, "00000", 4);
        dueFault(MARK, "s+12345", 6);
        dueFault(MARK, "(12345", 5);
        dueFault(MARK, "!12345", 5);
    }

    private static void comparedOnce() {
        String compares = "<=>";
        for (int i = 0; i < 9; i++) {
            String text = "1" + compares.charAt(i / 3) + "1" + compares.charAt(i % 3) + "1";
            dueFault(MARK, text, 3);
            dueFault(MARK, "(" + text + ")", 4);
            dueText(MARK, text.substring(0, 3) + "&" + text.substring(2));
            dueText(MARK, "(" + text.substring(0, 3) + ")" + text.substring(3));
        }
    }

    private static void fiveOpenAtOnce() {
        for (int n = 1; n <= 6; n++) {
            for (int bits = 0; bits < 1 << n; bits++) {
                StringBuilder text = new StringBuilder();
                StringBuilder closed = new StringBuilder();
                for (int i = 0; i < n; i++) {
                    text.append((bits >>> i & 1) == 0 ? '!' : '(');
                    closed.append((bits >>> i & 1) == 0 ? "" : ")");
                }
                text.append('0').append(closed);
                if (n <= 5) {
                    dueValue(text.toString(), (n - Integer.bitCount(bits)) % 2);
                } else {
                    dueFault(MARK, text.toString(), 5);
                }
            }
        }
    }

    private static void openOnesThatCloseAgain() {
        dueValue("!!!!!0+(((((2)))))+!!!!!0", 4);
        dueValue("(!!!!0+!!!!1+(!!!2))", 1);
        dueValue("((((1)+(2))+(3))+((((4)))))", 10);
        dueFault(MARK, "((((1)+(2))+(3))+(((((4))))))", 21);
        dueFault(MARK, "!!!!!(1)", 5);
        dueFault(MARK, "!!!!!0+!!!!!!0", 12);
        dueFault(MARK, "(1)+((((((1))))))", 9);
    }

    private static void endsTooEarly() {
        String[] texts = {"1+", "s*", "1<", "1|", "1&", "!", "(", "(1", "((1)", "!(", "(1+", "(((((", "!!!!!", "(s<1|2"};
        for (String text : texts) {
            dueFault(MARK, text, text.length());
        }
    }

    private static void noBlanks() {
        dueFault(MARK, " 1", 0);
        dueFault(MARK, "1 ", 1);
        dueFault(MARK, "1 +1", 1);
        dueFault(MARK, "1+ 1", 2);
        dueFault(MARK, "( 1)", 1);
        dueFault(MARK, "1\t", 1);
        dueFault(MARK, "1\n", 1);
    }

    // ---- what TEXTS answer

    private static final String LEAST = "(0-8192*8192*32)";

    private static void intsWrap() {
        due("the least int", -8192 * 8192 * 32, MIN);
        dueValue(LEAST, MIN);
        dueValue(LEAST + "-1", MAX);
        dueValue("8192*8192*32-1", MAX);
        dueValue("8192*8192*32", MIN);
        dueValue(LEAST + "+" + LEAST, 0);
        dueValue(LEAST + "*(0-1)", MIN);
        dueValue("0-" + LEAST, MIN);
        dueValue("9999*9999*9999", 9999 * 9999 * 9999);
    }

    private static void quotientsAreCut() {
        dueValue("7/2", 3);
        dueValue("(0-7)/2", -3);
        dueValue("7/(0-2)", -3);
        dueValue("(0-7)/(0-2)", 3);
        dueValue("(0-1)/2", 0);
        dueValue("7%2", 1);
        dueValue("(0-7)%2", -1);
        dueValue("7%(0-2)", 1);
        dueValue("(0-7)%(0-2)", -1);
        dueValue("(0-8)%2", 0);
        dueValue(LEAST + "/(0-1)", MIN);
        dueValue(LEAST + "%(0-1)", 0);
        dueValue(LEAST + "/" + LEAST, 1);
    }

    private static void byNothingIsNothing() {
        dueValue("5/0", 0);
        dueValue("5%0", 0);
        dueValue("0/0", 0);
        dueValue("0%0", 0);
        dueValue(LEAST + "/0", 0);
        dueValue(LEAST + "%0", 0);
        dueValue("5/0+9", 9);
        dueValue("5/(3-3)/0", 0);
    }

    private static void whatIsNotNothingIsTrue() {
        dueValue("2|0", 1);
        dueValue("0|(0-2)", 1);
        dueValue("0|0", 0);
        dueValue("2&4", 1);
        dueValue("1&2", 1);
        dueValue("(0-1)&9", 1);
        dueValue("9&0", 0);
        dueValue("0&9", 0);
        dueValue("!9", 0);
        dueValue("!(0-1)", 0);
        dueValue("!0", 1);
        dueValue("!!9", 1);
        dueValue(LEAST + "&1", 1);
        dueValue("!" + LEAST, 0);
    }

    private static void comparesWithoutWrapping() {
        dueValue(LEAST + "<8192*8192*32-1", 1);
        dueValue(LEAST + ">8192*8192*32-1", 0);
        dueValue("8192*8192*32-1>" + LEAST, 1);
        dueValue("2<3", 1);
        dueValue("3<3", 0);
        dueValue("4<3", 0);
        dueValue("2=3", 0);
        dueValue("3=3", 1);
        dueValue("4=3", 0);
        dueValue("2>3", 0);
        dueValue("3>3", 0);
        dueValue("4>3", 1);
    }

    private static void allIsWorkedOut() {
        dueValue("1|1/0", 1);
        dueValue("0&1/0", 0);
        dueValue("1/0|1", 1);
        dueValue("1|0&0", 1);
        dueValue("0&0|1", 1);
        dueValue("9-4-3", 2);
        dueValue("90/4/3", 7);
        dueValue("90%50%7", 5);
        dueValue("9-4*2", 1);
        dueValue("1+1<3", 1);
    }

    private static void faultIsNoError() {
        FoamHead x = one();
        for (int i = 0; i < 7; i++) {
            due("text", text(x, MARK, "1+"), -12);
        }
        for (int k = 1; k <= 6; k++) {
            due("told(" + k + ")", x.told(k), 0);
        }
    }

    private static void faultLeavesTheOneAhead() {
        FoamHead x = one();
        due("text 5", text(x, MARK, "5"), 1);
        due("text 6+", text(x, MARK, "6+"), -12);
        due("count(4): THE TAPE is empty", x.count(4), 0);
        due("mark", x.bubbleIs(0, 8), 5);
        due("text of nothing", x.text(MARK), -10);
        due("mark", x.bubbleIs(0, 8), 5);
        due("text 7", text(x, MARK, "7"), 1);
        due("mark", x.bubbleIs(0, 8), 7);
    }

    private static void usesBesideTheThree() {
        FoamHead x = one();
        feed(x, "5");
        for (int use : new int[] {-1, 3, MIN, MAX}) {
            due("text(" + use + ")", x.text(use), BEYOND);
            due("untell(" + use + ")", x.untell(use), BEYOND);
            due("count(4): THE TAPE stays", x.count(4), 1);
        }
        due("text(2)", x.text(2), 1);
        due("mark", x.bubbleIs(0, 8), 5);
    }

    // ---- promise 16

    private static void untellTwice() {
        FoamHead x = one();
        for (int use = 0; use < 3; use++) {
            due("untell(" + use + "): there was none", x.untell(use), 0);
            due("text", text(x, use, "1"), 1);
        }
        for (int use = 0; use < 3; use++) {
            due("untell(" + use + ")", x.untell(use), 1);
            due("untell(" + use + ") again", x.untell(use), 0);
            due("text with a FAULT", text(x, use, "1+"), -12);
            due("untell(" + use + "): there is none still", x.untell(use), 0);
        }
    }

    // ---- USES

    private static void lawWithoutAText() {
        FoamHead x = foam(3, 3, 5);
        x.rule(0, 1);
        due("passes(0, 3): 6 less 3", x.passes(0, 3), 3);
        due("passes(3, 5): no WALL", x.passes(3, 5), STATE);
        due("passes(3, 7): 5 less 6", x.passes(3, 7), -1);
        due("text", text(x, LAW, "0"), 1);
        due("passes(0, 3)", x.passes(0, 3), 0);
        due("untell(0)", x.untell(LAW), 1);
        due("passes(0, 3)", x.passes(0, 3), 3);
    }

    /** Whether the one WALL makes a draw; all the water is too little to run. */
    private static int draws(FoamHead x, int water, int waterOfOther) {
        x.seed(1);
        x.fill(0, 1, water);
        x.fill(1, 1, waterOfOther);
        x.tick(1);
        return x.count(7) == 1 ? 0 : 1;
    }

    private static void burstWithoutAText() {
        FoamHead x = foam(2, 1, 500);
        x.rule(1, 3);
        due("3 is not below 3", draws(x, 3, 3), 0);
        due("2 is", draws(x, 3, 2), 1);
        due("2 is", draws(x, 2, 3), 1);
        x.rule(1, 0);
        due("0 is not below 0", draws(x, 0, 0), 0);
        x.rule(1, 1);
        due("0 is below 1", draws(x, 0, 3), 1);
        x.become(1, 4);
        due("1 is below twice 1, of FAT", draws(x, 1, 3), 1);
        due("2 is not", draws(x, 2, 3), 0);
        x.become(0, 3);
        x.become(1, 3);
        x.rule(1, 3);
        due("1 is not below half of 3, of THICK, cut", draws(x, 1, 1), 0);
        due("0 is", draws(x, 1, 0), 1);
        x.become(0, 0);
        due("2 is below 3 of either", draws(x, 2, 3), 1);
        x.rule(1, 999);
        due("3 is below 999", draws(x, 3, 3), 1);
    }

    private static void burstOfCreamNever() {
        FoamHead x = foam(2, 1, 500);
        x.rule(1, 999);
        x.become(0, 5);
        x.become(1, 5);
        due("CREAM is never dry", draws(x, 0, 0), 0);
        due("DRY", x.bubbleIs(0, 6), 0);
        x.become(1, 0);
        due("the other one is", draws(x, 0, 0), 1);
    }

    private static void markWithoutAText() {
        FoamHead x = foam(2, 2, 99);
        due("mark", x.bubbleIs(3, 8), 0);
        due("marked", x.marked(0), 0);
        due("text", text(x, MARK, "g"), 1);
        due("mark", x.bubbleIs(3, 8), 99);
        x.untell(MARK);
        due("mark", x.bubbleIs(3, 8), 0);
    }

    private static void lawOfTheLesser() {
        FoamHead x = foam(3, 3, 5);
        x.rule(0, 1);
        x.fill(0, 0, 10);
        x.fill(3, 0, 20);
        due("text", text(x, LAW, "s*1000+t*100+g*10+h"), 1);
        due("passes(0, 3)", x.passes(0, 3), 3000 + 600 + 100 + 20);
        due("passes(3, 0)", x.passes(3, 0), -3720);
        due("text", text(x, LAW, "0-g"), 1);
        due("passes(0, 3)", x.passes(0, 3), -10);
        due("passes(3, 0)", x.passes(3, 0), 10);
    }

    private static void ticksSoFar() {
        FoamHead x = foam(2, 1, 500);
        x.rule(0, 1);
        x.rule(1, 0);
        due("text", text(x, LAW, "n"), 1);
        due("passes: 0 so far", x.passes(0, 1), 0);
        x.tick(1);
        due("gas: the first TICK has 0", x.bubbleIs(1, 1), 500);
        due("passes: 1 so far", x.passes(0, 1), 1);
        x.tick(3);
        due("gas: 1, 2, 3 more", x.bubbleIs(1, 1), 506);
        due("text", text(x, BURST, "n=5"), 1);
        x.tick(1);
        due("z: no draw with 4", x.count(7), 1);
        x.tick(1);
        due("z: a draw with 5", x.count(7), 1103527590);
        x.tick(1);
        due("z: no draw with 6", x.count(7), 1103527590);
        ticks(x, 9992);
        due("count(3)", x.count(3), 9999);
        due("passes: 9999 so far", x.passes(0, 1), 9999);
    }
}
