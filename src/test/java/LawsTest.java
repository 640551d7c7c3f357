/** Promises 14 to 22: laws in texts, ticks. */
public final class LawsTest extends Checks {
    public static void main(String[] args) {
        feeds();
        worksTextsOut();
        findsFaults();
        keepsAndLosesTexts();
        readsNamesOfUses();
        rules();
        passes();
        passesGas();
        runsDown();
        keepsWhatItCan();
        drawsAndBursts();
        losesTheEmpty();
        endsTicks();
        stands();
        seeds();
        countsAll();
        end();
    }

    private static void feeds() {
        FoamHead x = new FoamHead();
        due("feed(1, 0)", x.feed(1, 0), BEYOND);
        due("feed(1, 9)", x.feed(1, 9), BEYOND);
        for (int i = 1; i <= 7; i++) {
            due("feed(-1, 8)", x.feed(-1L, 8), 8 * i);
        }
        due("feed(-1, 5)", x.feed(-1L, 5), FULL);
        due("count(4)", x.count(4), 56);
        due("feed(-1, 4)", x.feed(-1L, 4), 60);
        due("feed(-1, 1)", x.feed(-1L, 1), FULL);
        due("feed(-1, 9)", x.feed(-1L, 9), BEYOND);
        due("text(0)", x.text(0), -10);
        due("count(4)", x.count(4), 0);
    }

    private static void dueValue(String text, int want) {
        FoamHead x = foam(1, 1, 7);
        x.fill(0, 1, 3);
        due("text " + text, text(x, MARK, text), 1);
        due(text, x.bubbleIs(0, 8), want);
    }

    private static void worksTextsOut() {
        dueValue("0", 0);
        dueValue("9999", 9999);
        dueValue("0007", 7);
        dueValue("1+2*3", 7);
        dueValue("(1+2)*3", 9);
        dueValue("8-3-2", 3);
        dueValue("100/5/2", 10);
        dueValue("7/2", 3);
        dueValue("(0-7)/2", -3);
        dueValue("(0-7)%3", -1);
        dueValue("7%(0-3)", 1);
        dueValue("7%4%2", 1);
        dueValue("2*7%4", 2);
        dueValue("5/0", 0);
        dueValue("5%0", 0);
        dueValue("1<2", 1);
        dueValue("2<2", 0);
        dueValue("2=2", 1);
        dueValue("2=3", 0);
        dueValue("3>2", 1);
        dueValue("2>2", 0);
        dueValue("0-1<0", 1);
        dueValue("5|0", 1);
        dueValue("0|0", 0);
        dueValue("0|0|9", 1);
        dueValue("5&2", 1);
        dueValue("5&2&0", 0);
        dueValue("1|0&0", 1);
        dueValue("0&0|1", 1);
        dueValue("1<2&3<2", 0);
        dueValue("!5", 0);
        dueValue("!0", 1);
        dueValue("!!7", 1);
        dueValue("!0+1", 2);
        dueValue("!(0+1)", 0);
        dueValue("!s*5+1", 1);
        dueValue("(1<2)+(3>2)", 2);
        dueValue("9999*9999*9999", 9999 * 9999 * 9999);
        dueValue("0-9999*9999*22", -(9999 * 9999 * 22));
        dueValue("s*1000+g*100+w*10+r+k", 1730);
        dueValue("1+1+1+1+1+1+1+1+1+1+1+1+1+1+1+1+1+1+1+1+1+1+1+1+1+1+1+1+11", 39);
        dueValue("2-(3-(4-(5-(6-(7)))))", 2 - (3 - (4 - (5 - (6 - 7)))));
        leastByMinusOne();
    }

    private static void leastByMinusOne() {
        int least = 0 - 8192 * 4096 * 64;
        due("the least int", least, Integer.MIN_VALUE);
        dueValue("(0-8192*4096*64)/(0-1)", Integer.MIN_VALUE);
        dueValue("(0-8192*4096*64)%(0-1)", 0);
        dueValue("8192*4096*64-1", Integer.MAX_VALUE);
    }

    private static void dueFault(int use, String text, int want) {
        FoamHead x = foam(1, 1, 7);
        due("text " + text, text(x, use, text), -10 - want);
        due("told(1)", x.told(1), 0);
    }

    private static void findsFaults() {
        dueFault(MARK, "", 0);
        dueFault(MARK, "+", 0);
        dueFault(MARK, "1+", 2);
        dueFault(MARK, "1++1", 2);
        dueFault(MARK, "-1", 0);
        dueFault(MARK, "12345", 4);
        dueFault(MARK, "(12345)", 5);
        dueFault(MARK, "1 ", 1);
        dueFault(MARK, " 1", 0);
        dueFault(MARK, "1s", 1);
        dueFault(MARK, "s1", 1);
        dueFault(MARK, "ss", 1);
        dueFault(MARK, "S", 0);
        dueFault(MARK, "(1", 2);
        dueFault(MARK, "(1))", 3);
        dueFault(MARK, "(1)(", 3);
        dueFault(MARK, "()", 1);
        dueFault(MARK, "1!", 1);
        dueFault(MARK, "1<2<3", 3);
        dueFault(MARK, "1<2=1", 3);
        dueFault(MARK, "1<", 2);
        dueFault(MARK, "1<=2", 2);
        dueFault(MARK, "1||2", 2);
        dueFault(MARK, "1&2&", 4);
        dueFault(MARK, "!", 1);
        dueFault(MARK, "!!!!!", 5);
        dueFault(MARK, "!!!!!!1", 5);
        dueFault(MARK, "((((((1))))))", 5);
        dueFault(MARK, "!(!(!!1))", 5);
        dueFault(MARK, "!(!(!(1)))", 5);
        dueFault(MARK, "(((((1", 6);
        dueFault(MARK, "((((((0)", 5);
        dueFault(MARK, "(2-(3-(4-(5-(6-(7))))))", 15);
        dueFault(MARK, "1\u00e9", 1);
        dueFault(MARK, "\u00ff", 0);
        dueFault(MARK, "1\u0000", 1);
        dueFault(LAW, "w", 0);
        dueFault(LAW, "g+k", 2);
        dueFault(BURST, "g", 0);
        dueFault(BURST, "w+h", 2);
        dueFault(MARK, "t", 0);
        dueFault(MARK, "s+n", 2);
        FoamHead x = foam(1, 1, 1);
        due("open 5", text(x, MARK, "(((((1)))))"), 1);
        due("open 5", text(x, MARK, "!!!!!1"), 1);
        due("open 5", text(x, MARK, "!(!(!1))"), 1);
        due("closed ones don't count", text(x, MARK, "(!1)+!(!1)+!!!!!1+(((((1)))))"), 1);
        due("(1<2)<3", text(x, MARK, "(1<2)<3"), 1);
        String longest = "1+1+1+1+1+1+1+1+1+1+1+1+1+1+1+1+1+1+1+1+1+1+1+1+1+1+1+1+11";
        due("a long one", text(x, MARK, longest + "+"), -10 - longest.length() - 1);
    }

    private static void keepsAndLosesTexts() {
        FoamHead x = foam(1, 1, 1);
        x.feed('7', 1);
        due("text(-1)", x.text(-1), BEYOND);
        due("text(3)", x.text(3), BEYOND);
        due("count(4)", x.count(4), 1);
        due("untell(2)", x.untell(2), 0);
        due("text(2)", x.text(2), 1);
        due("mark", x.bubbleIs(0, 8), 7);
        due("text 8+", text(x, MARK, "8+"), -12);
        due("mark", x.bubbleIs(0, 8), 7);
        due("text 8", text(x, MARK, "8"), 1);
        due("mark", x.bubbleIs(0, 8), 8);
        x.foam(1, 1, 2);
        due("mark", x.bubbleIs(0, 8), 8);
        due("untell(3)", x.untell(3), BEYOND);
        due("untell(-1)", x.untell(-1), BEYOND);
        due("untell(0)", x.untell(0), 0);
        due("untell(1)", x.untell(1), 0);
        due("untell(2)", x.untell(2), 1);
        due("untell(2)", x.untell(2), 0);
        due("mark", x.bubbleIs(0, 8), 0);
    }

    private static void readsNamesOfUses() {
        FoamHead x = foam(2, 2, 9);
        text(x, BURST, "0");
        x.rule(0, 1);
        x.tick(2);
        x.fill(0, 0, 3);
        x.fill(1, 0, 5);
        text(x, LAW, "s*1000+t*100+g*10+h-n");
        due("passes(0, 1)", x.passes(0, 1), 3000 + 400 + 30 + 5 - 2);
        due("passes(1, 0)", x.passes(1, 0), -3433);
        x = foam(2, 2, 9);
        x.fill(1, 1, 40);
        x.fill(3, 1, 41);
        text(x, BURST, "w=10&v=12&s=3&t=4&n=0");
        x.fill(0, 1, 12);
        x.fill(1, 1, 10);
        due("z", x.count(7), 1);
        x.tick(1);
        due("z: water has run down first", x.count(7), 1);
        x = foam(2, 1, 9);
        text(x, BURST, "w=9&v=12&s=2&t=2&n=0");
        x.fill(0, 1, 16);
        x.fill(1, 1, 12);
        x.tick(1);
        due("z: one draw", x.count(7), 1103527590);
        x.fill(0, 1, 16);
        x.fill(1, 1, 12);
        x.tick(1);
        due("z: n is 1", x.count(7), 1103527590);
        x = foam(2, 2, 9);
        x.become(3, 4);
        x.fill(3, 1, 77);
        text(x, MARK, "s+g*10+w*100+r*1000+k*2000");
        due("mark", x.bubbleIs(3, 8), 3 + 90 + 7700 + 1000 + 8000);
    }

    private static void rules() {
        FoamHead x = new FoamHead();
        due("rule(0, 99)", x.rule(0, 99), 10);
        due("rule(0, 0)", x.rule(0, 0), 99);
        due("rule(0, 100)", x.rule(0, 100), BEYOND);
        due("rule(0, -1)", x.rule(0, -1), BEYOND);
        due("rule(0, 5)", x.rule(0, 5), 0);
        due("rule(1, 999)", x.rule(1, 999), 5);
        due("rule(1, 1000)", x.rule(1, 1000), BEYOND);
        due("rule(1, -1)", x.rule(1, -1), BEYOND);
        due("rule(1, 0)", x.rule(1, 0), 999);
        due("rule(2, 1)", x.rule(2, 1), 12);
        due("rule(2, 99)", x.rule(2, 99), 1);
        due("rule(2, 0)", x.rule(2, 0), BEYOND);
        due("rule(2, 20)", x.rule(2, 20), BEYOND);
        due("rule(2, 100)", x.rule(2, 100), BEYOND);
        due("rule(2, 101)", x.rule(2, 101), BEYOND);
        due("rule(2, -1)", x.rule(2, -1), BEYOND);
        due("rule(2, 35)", x.rule(2, 35), 99);
        due("rule(3, 1)", x.rule(3, 1), BEYOND);
        due("rule(-1, 1)", x.rule(-1, 1), BEYOND);
    }

    private static void passes() {
        FoamHead x = foam(3, 3, 50);
        due("passes(0, 1)", x.passes(0, 1), 20);
        due("passes(1, 0)", x.passes(1, 0), -20);
        x.become(0, 1);
        x.become(1, 4);
        due("passes(0, 1): 20 * 4 * 6 by 144", x.passes(0, 1), 3);
        due("passes(1, 0)", x.passes(1, 0), -3);
        due("passes(0, 8)", x.passes(0, 8), STATE);
        due("passes(4, 4)", x.passes(4, 4), STATE);
        due("passes(0, 9)", x.passes(0, 9), BEYOND);
        due("passes(-1, 0)", x.passes(-1, 0), BEYOND);
        text(x, LAW, "9999*9999*21");
        x.rule(0, 99);
        due("held", x.passes(4, 5), 9999);
        due("held, by 6", x.passes(0, 1), 9999 * 24 / 144);
        text(x, LAW, "0-9999*9999*21");
        due("held", x.passes(4, 5), -9999);
        due("held", x.passes(5, 4), 9999);
        x.rule(0, 0);
        due("rate 0", x.passes(5, 4), 0);
        x.rule(0, 1);
        text(x, LAW, "0-11");
        due("cut toward 0", x.passes(0, 1), -1);
        due("not held by what there is", x.passes(4, 5), -11);
        x.fill(4, 0, 0);
        due("not held by what there is", x.passes(5, 4), 11);
    }

    private static void passesGas() {
        FoamHead x = foam(1, 2, 50);
        text(x, LAW, "3");
        due("tick(1)", x.tick(1), 2);
        due("gas of 0", x.bubbleIs(0, 1), 20);
        due("gas of 1", x.bubbleIs(1, 1), 80);
        x.tick(1);
        due("gas of 0", x.bubbleIs(0, 1), 0);
        due("gas of 1", x.bubbleIs(1, 1), 100);
        x.fill(0, 0, 50);
        x.fill(1, 0, 99990);
        x.tick(1);
        due("gas of 0: room", x.bubbleIs(0, 1), 41);
        due("gas of 1: room", x.bubbleIs(1, 1), 99999);
        text(x, LAW, "0-2");
        x.tick(1);
        due("gas of 0: back", x.bubbleIs(0, 1), 61);
        due("gas of 1: back", x.bubbleIs(1, 1), 99979);
        x = foam(1, 3, 10);
        x.rule(0, 1);
        text(x, LAW, "h");
        x.tick(1);
        due("gas of 0", x.bubbleIs(0, 1), 0);
        due("gas of 1: as it is at its turn", x.bubbleIs(1, 1), 10);
        due("gas of 2", x.bubbleIs(2, 1), 20);
    }

    private static void runsDown() {
        FoamHead x = foam(1, 2, 50);
        x.fill(0, 1, 100);
        x.tick(1);
        due("water of 0", x.bubbleIs(0, 2), 75);
        due("water of 1", x.bubbleIs(1, 2), 25);
        x.tick(1);
        due("water of 0", x.bubbleIs(0, 2), 57);
        due("water of 1", x.bubbleIs(1, 2), 37);
        due("drained", x.all(2), 6);
        x = foam(1, 2, 50);
        x.become(0, 3);
        x.become(1, 5);
        x.fill(0, 1, 100);
        x.fill(1, 1, 17);
        x.tick(1);
        due("water of 0: by 8", x.bubbleIs(0, 2), 88);
        due("water of 1: by 8", x.bubbleIs(1, 2), 27);
        due("drained", x.all(2), 2);
        x = foam(3, 3, 50);
        x.rule(0, 0);
        text(x, BURST, "0");
        x.fill(4, 1, 46);
        x.fill(3, 1, 50);
        x.tick(1);
        due("water of 4: 11 to two", x.bubbleIs(4, 2), 36);
        due("water of 3: 12 to two", x.bubbleIs(3, 2), 38);
        due("water of 8", x.bubbleIs(8, 2), 5);
        due("water of 7", x.bubbleIs(7, 2), 11);
        due("water of 6", x.bubbleIs(6, 2), 6);
        due("drained", x.all(2), 0);
        x.tick(1);
        due("drained", x.all(2), 1 + 2 + 1);
        due("all(1)", x.all(1), 92);
    }

    private static void keepsWhatItCan() {
        FoamHead x = foam(1, 2, 50);
        x.become(1, 3);
        x.fill(0, 1, 99999);
        x.fill(1, 1, 99999);
        x.tick(1);
        due("water of 0", x.bubbleIs(0, 2), 75000);
        due("water of 1", x.bubbleIs(1, 2), 99999);
        due("drained", x.all(2), 24999);
        x = foam(1, 2, 50);
        x.fill(0, 1, 99999);
        x.fill(1, 1, 99999);
        x.tick(1);
        due("water of 1: gives as much as it gets", x.bubbleIs(1, 2), 99999);
        due("drained", x.all(2), 24999);
    }

    private static void drawsAndBursts() {
        FoamHead x = foam(2, 1, 5);
        x.rule(2, 11);
        x.tick(1);
        due("drawn though it can't", x.count(7), 1103527590);
        due("count(0)", x.count(0), 2);
        x.fill(0, 1, 50);
        x.fill(1, 1, 50);
        x.tick(1);
        due("not dry: not drawn", x.count(7), 1103527590);
        x.become(1, 4);
        x.fill(0, 1, 12);
        x.fill(1, 1, 14);
        x.tick(1);
        due("9 is not below 5, below 10 of FAT", x.count(7), 1103527590 * 1103515245 + 12345);
        x = foam(3, 3, 5);
        x.rule(0, 0);
        x.rule(2, 1);
        due("p 0: none bursts", x.tick(10), 9);
        due("all(5)", x.all(5), 0);
        x = foam(3, 3, 5);
        x.rule(0, 0);
        x.rule(2, 11);
        x.tick(1);
        due("p 1 of 1: burst", x.all(5) > 0 ? 1 : 0, 1);
        due("gas", x.all(0), 45);
        x = foam(3, 3, 5);
        x.rule(0, 0);
        x.rule(2, 99);
        text(x, BURST, "0");
        due("none is to burst", x.tick(9), 9);
        due("z", x.count(7), 1);
    }

    private static void losesTheEmpty() {
        FoamHead x = foam(3, 3, 5);
        text(x, BURST, "0");
        x.rule(0, 0);
        x.fill(0, 0, 0);
        due("3 sides", x.tick(1), 8);
        due("all(4)", x.all(4), 1);
        x = foam(3, 3, 5);
        text(x, BURST, "0");
        x.rule(0, 0);
        x.fill(4, 0, 0);
        due("6 sides", x.tick(1), 9);
        due("all(3)", x.all(3), 1);
        due("beside(4, 1): the first is turned", x.beside(4, 1), 0);
        due("beside(2, 3)", x.beside(2, 3), 1);
        x.tick(3);
        due("all(3)", x.all(3), 3);
        due("count(0)", x.count(0), 8);
        due("bubbleIs(4, 0)", x.bubbleIs(4, 0), BEYOND);
        x = foam(2, 1, 0);
        due("2 sides", x.tick(5), 2);
    }

    private static void endsTicks() {
        FoamHead x = new FoamHead();
        due("tick(0)", x.tick(0), BEYOND);
        due("tick(61)", x.tick(61), BEYOND);
        due("tick(-1)", x.tick(-1), BEYOND);
        x.foam(1, 1, 5);
        for (int i = 0; i < 166; i++) {
            due("tick(60)", x.tick(60), 1);
        }
        due("tick(40)", x.tick(40), STATE);
        due("stands(0, 40)", x.stands(0, 40), STATE);
        due("stands(16, 40)", x.stands(16, 40), STATE);
        due("stands(0, 39)", x.stands(0, 39), NONE);
        due("count(3)", x.count(3), 9960);
        due("tick(39)", x.tick(39), 1);
        due("count(3)", x.count(3), 9999);
        due("tick(1)", x.tick(1), STATE);
        due("tick(61)", x.tick(61), BEYOND);
        due("foam(1, 1, 1)", x.foam(1, 1, 1), 1);
        due("tick(1)", x.tick(1), 1);
    }

    private static void stands() {
        FoamHead x = foam(3, 3, 5);
        due("stands(-1, 1)", x.stands(-1, 1), BEYOND);
        due("stands(17, 1)", x.stands(17, 1), BEYOND);
        due("stands(0, 0)", x.stands(0, 0), BEYOND);
        due("stands(0, 61)", x.stands(0, 61), BEYOND);
        due("stands(9, 1)", x.stands(9, 1), 0);
        due("stands(16, 60)", x.stands(16, 60), 0);
        text(x, BURST, "0");
        x.rule(0, 0);
        x.fill(4, 0, 0);
        due("stands(8, 60)", x.stands(8, 60), 4);
        due("stands(8, 4)", x.stands(8, 4), 4);
        due("stands(8, 3)", x.stands(8, 3), NONE);
        due("stands(7, 60)", x.stands(7, 60), NONE);
        due("count(0)", x.count(0), 9);
        due("count(3)", x.count(3), 0);
        due("all(3)", x.all(3), 0);
        due("all(4)", x.all(4), 0);
        due("bubbleIs(4, 4)", x.bubbleIs(4, 4), 6);
        x.untell(BURST);
        x.fill(5, 1, 100);
        x.stands(0, 60);
        due("count(7)", x.count(7), 1);
        due("all(2)", x.all(2), 0);
        due("bubbleIs(5, 2)", x.bubbleIs(5, 2), 100);
        due("count(0)", x.count(0), 9);
    }

    private static void seeds() {
        FoamHead x = new FoamHead();
        due("seed(-5)", x.seed(-5), 1);
        due("seed(-1000001)", x.seed(-1000001), -5);
        due("seed(0)", x.seed(0), -1000001);
        due("told(1)", x.told(1), 0);
        x.foam(2, 1, 5);
        x.tick(1);
        due("count(7)", x.count(7), 12345);
        x.foam(2, 1, 5);
        due("count(7)", x.count(7), 12345);
    }

    private static void countsAll() {
        FoamHead x = foam(4, 4, 99999);
        due("all(0)", x.all(0), 1599984);
        for (int b = 0; b < 16; b++) {
            x.fill(b, 1, b);
        }
        due("all(1)", x.all(1), 120);
        due("all(6)", x.all(6), BEYOND);
        due("all(-1)", x.all(-1), BEYOND);
        x.turn(5, 6);
        x.vanish(0);
        x.burst(9, 10);
        due("all(3)", x.all(3), 1);
        due("all(4)", x.all(4), 1);
        due("all(5)", x.all(5), 1);
        due("all(0)", x.all(0), 99999 * 14);
    }
}
