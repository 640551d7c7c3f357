/** Term 4, promises 23 to 30: a test of its own for each sentence that names an edge. */
public final class SeenEdgesTest extends Checks {
    public static void main(String[] args) {
        paceAboveAndBelow();
        sidesFromTo();
        sidesOfWhatIsGone();
        aroundOfNone();
        aroundWithNoneBeside();
        aroundEachTimeAnew();
        aroundIsCut();
        firstOfLikeOnes();
        firstOfOne();
        firstOfNone();
        wayToItself();
        wayAsFarAsCanBe();
        wayOfTheGone();
        colourOfOneToFour();
        colourOfOneBubble();
        coloursNotUsed();
        coloursPassWhatIsGone();
        apartOfOneAndNone();
        apartTheLeastOfSeveral();
        apartOfSixteen();
        markedOfNone();
        markedBelowNothing();
        markedWraps();
        markedThatLookLikeErrors();
        end();
    }

    // ---- promise 23

    private static void paceAboveAndBelow() {
        FoamHead x = foam(3, 3, 5);
        due("pace(2): 4 SIDES", x.pace(2), -20);
        due("pace(4): 6 SIDES", x.pace(4), 0);
        x.rule(0, 99);
        due("pace(2)", x.pace(2), -198);
        due("turn(2, 5)", x.turn(2, 5), 3);
        due("pace(4): 7 SIDES", x.pace(4), 99);
        x.rule(0, 0);
        due("pace(2): RATE 0", x.pace(2), 0);
        due("pace of 1 SIDE", foam(1, 1, 5).pace(0), -50);
    }

    // ---- promise 24

    private static void sidesFromTo() {
        FoamHead x = foam(3, 3, 5);
        due("sides(-1)", x.sides(-1), BEYOND);
        due("sides(0)", x.sides(0), 0);
        due("sides(1)", x.sides(1), 0);
        due("sides(3)", x.sides(3), 2);
        due("sides(60)", x.sides(60), 0);
        due("sides(61)", x.sides(61), BEYOND);
        due("sides(1): GLASS counts as one", foam(1, 1, 5).sides(1), 1);
        due("sides(4): two GLASSES count as two", foam(4, 1, 5).sides(4), 2);
        due("sides(2)", foam(4, 1, 5).sides(2), 2);
    }

    private static void sidesOfWhatIsGone() {
        FoamHead x = foam(3, 3, 5);
        due("vanish(0)", x.vanish(0), 8);
        due("sides(0)", x.sides(0), 0);
        due("sides(3)", x.sides(3), 1);
        int all = 0;
        for (int s = 0; s <= 60; s++) {
            all += x.sides(s);
        }
        due("all of them", all, 8);
    }

    // ---- promise 25

    private static void aroundOfNone() {
        FoamHead x = foam(3, 3, 5);
        due("around(-1)", x.around(-1), BEYOND);
        due("around(0)", x.around(0), NONE);
        due("around(7)", x.around(7), NONE);
        due("around(60)", x.around(60), NONE);
        due("around(61)", x.around(61), BEYOND);
    }

    private static void aroundWithNoneBeside() {
        FoamHead x = foam(1, 1, 5);
        due("sides(1)", x.sides(1), 1);
        due("around(1): GLASS doesn't count", x.around(1), NONE);
    }

    /** 2 has 4 SIDES and is beside 1, 3 and 5; 5, 8 too, so what is beside two of them counts twice. */
    private static void aroundEachTimeAnew() {
        FoamHead x = foam(3, 3, 5);
        dueRing(x, 2, 1, 16, 5, 4);
        dueRing(x, 5, 2, 16, 8, 4);
        dueRing(x, 8, 4, 5, 16, 7);
        due("around(4): 5+4+6, 4+4+6, 6+4+5", x.around(4), 100 * (15 + 14 + 15) / 9);
        due("around(2) of 2 by 1", foam(2, 1, 5).around(2), 200);
    }

    private static void aroundIsCut() {
        FoamHead x = foam(2, 3, 5);
        dueRing(x, 0, 1, 2, 16);
        dueRing(x, 4, 2, 5, 16);
        due("around(3): 4+6 and 6+4", x.around(3), 500);
        dueRing(x, 2, 0, 1, 3, 5, 4, 16);
        due("around(6): 3+4+4+4+3 by 5", x.around(6), 360);
        dueRing(x, 3, 1, 16, 5, 2);
        due("around(4): 3+6+4, 4+4+6, 4+6+3 by 9", x.around(4), 444);
    }

    // ---- promise 26

    private static void firstOfLikeOnes() {
        FoamHead x = foam(4, 4, 5);
        due("first(0)", x.first(0), 0);
        due("first(1)", x.first(1), 0);
        due("first(2): 4, 5, 6, 9 .. have 6 SIDES", x.first(2), 4);
        due("first(3): 0 and 15 have 3", x.first(3), 0);
        due("vanish(0)", x.vanish(0), 15);
        due("first(0)", x.first(0), 1);
        due("first(1)", x.first(1), 1);
        due("first(3)", x.first(3), 15);
        x.fill(15, 0, 99999);
        x.fill(14, 0, 0);
        due("first(0)", x.first(0), 15);
        due("first(1)", x.first(1), 14);
        x.fill(13, 0, 99999);
        x.fill(12, 0, 0);
        due("first(0)", x.first(0), 13);
        due("first(1)", x.first(1), 12);
        due("first(-1)", x.first(-1), BEYOND);
        due("first(4)", x.first(4), BEYOND);
    }

    private static void firstOfOne() {
        FoamHead x = foam(1, 1, 0);
        for (int what = 0; what < 4; what++) {
            due("first(" + what + ")", x.first(what), 0);
        }
    }

    private static void firstOfNone() {
        FoamHead x = new FoamHead();
        for (int what = 0; what < 4; what++) {
            due("first(" + what + ")", x.first(what), NONE);
        }
        due("first(4)", x.first(4), BEYOND);
        due("first(-1)", x.first(-1), BEYOND);
    }

    // ---- promise 27

    private static void wayToItself() {
        FoamHead x = foam(4, 4, 5);
        for (int b = 0; b < 16; b++) {
            due("way(" + b + ", " + b + ")", x.way(b, b), 0);
        }
        due("way(0, 0) of one", foam(1, 1, 5).way(0, 0), 0);
    }

    private static void wayAsFarAsCanBe() {
        FoamHead x = foam(1, 4, 5);
        due("way(0, 1)", x.way(0, 1), 1);
        due("way(0, 3)", x.way(0, 3), 3);
        due("way(3, 0)", x.way(3, 0), 3);
        x = foam(4, 4, 5);
        due("way(0, 15)", x.way(0, 15), 5);
        due("way(3, 12): odd ROWS stand further on", x.way(3, 12), 4);
        due("GLASS is no way: way(0, 3)", x.way(0, 3), 3);
    }

    private static void wayOfTheGone() {
        FoamHead x = foam(4, 4, 5);
        due("burst(5, 10)", x.burst(5, 10), 5);
        due("way(0, 15)", x.way(0, 15), 4);
        due("way(10, 15)", x.way(10, 15), BEYOND);
        due("way(15, 10)", x.way(15, 10), BEYOND);
        due("way(10, 10)", x.way(10, 10), BEYOND);
    }

    // ---- promise 28

    private static void colourOfOneToFour() {
        FoamHead x = foam(3, 3, 5);
        due("colour(0, 0)", x.colour(0, 0), BEYOND);
        due("colour(1, 0)", x.colour(1, 0), NONE);
        due("colour(2, 0)", x.colour(2, 0), NONE);
        due("colour(3, 0)", x.colour(3, 0), 0);
        due("colour(4, 0)", x.colour(4, 0), 0);
        due("colour(5, 0)", x.colour(5, 0), BEYOND);
        due("told(2)", x.told(2), 2);
        x = foam(4, 1, 5);
        due("colour(1, 0)", x.colour(1, 0), NONE);
        for (int b = 0; b < 4; b++) {
            due("colour(2, " + b + ")", x.colour(2, b), b % 2);
            due("colour(4, " + b + ")", x.colour(4, b), b % 2);
        }
    }

    private static void colourOfOneBubble() {
        FoamHead x = foam(1, 1, 5);
        for (int k = 1; k <= 4; k++) {
            due("colour(" + k + ", 0)", x.colour(k, 0), 0);
        }
    }

    /** With four 3 gets the last one, as 4 then has none but that left. */
    private static void coloursNotUsed() {
        FoamHead x = foam(3, 3, 5);
        int[] three = {0, 1, 2, 2, 0, 1, 0, 1, 2};
        int[] four = {0, 1, 0, 2, 3, 1, 0, 1, 0};
        for (int b = 0; b < 9; b++) {
            due("colour(3, " + b + ")", x.colour(3, b), three[b]);
            due("colour(4, " + b + ")", x.colour(4, b), four[b]);
        }
    }

    private static void coloursPassWhatIsGone() {
        FoamHead x = foam(3, 3, 5);
        due("vanish(0)", x.vanish(0), 8);
        due("colour(3, 0)", x.colour(3, 0), BEYOND);
        due("colour(3, 1): the least number gets the least", x.colour(3, 1), 0);
        due("colour(3, 3)", x.colour(3, 3), 1);
    }

    // ---- promise 29

    private static void apartOfOneAndNone() {
        FoamHead x = new FoamHead();
        due("apart(0)", x.apart(0), 0);
        due("apart(1)", x.apart(1), 0);
        x.foam(1, 1, 5);
        due("apart(0)", x.apart(0), 1);
        due("apart(1)", x.apart(1), 1);
        due("apart(-1)", x.apart(-1), BEYOND);
        due("apart(2)", x.apart(2), BEYOND);
    }

    private static void apartTheLeastOfSeveral() {
        FoamHead x = foam(2, 1, 5);
        due("apart(1): of 1 and 2", x.apart(1), 1);
        x = foam(4, 1, 5);
        due("apart(0)", x.apart(0), 2);
        due("apart(1): of 5, 9 and 10", x.apart(1), 5);
        x = foam(2, 2, 5);
        due("apart(0)", x.apart(0), 2);
        due("apart(1): just 0 and 3", x.apart(1), 9);
        due("vanish(0)", x.vanish(0), 3);
        due("apart(0)", x.apart(0), 1);
        due("apart(1): the least that is left", x.apart(1), 2);
    }

    private static void apartOfSixteen() {
        FoamHead x = foam(4, 4, 5);
        due("apart(0)", x.apart(0), 6);
        int set = x.apart(1);
        due("as bits", Integer.bitCount(set), 6);
        for (int a = 0; a < 16; a++) {
            for (int b = a + 1; b < 16; b++) {
                boolean both = (set >>> a & set >>> b & 1) == 1;
                due("beside(" + a + ", " + b + ")", both ? x.beside(a, b) : 0, 0);
            }
        }
        due("apart(1): 0, 3, 5, 8, 11, 13", set, 1 + (1 << 3) + (1 << 5) + (1 << 8) + (1 << 11) + (1 << 13));
    }

    // ---- promise 30

    private static void markedOfNone() {
        FoamHead x = new FoamHead();
        due("text", text(x, MARK, "1"), 1);
        for (int what = 0; what < 3; what++) {
            due("marked(" + what + ")", x.marked(what), 0);
        }
        due("marked(-1)", x.marked(-1), BEYOND);
        due("marked(3)", x.marked(3), BEYOND);
        x.foam(4, 4, 5);
        due("marked(0)", x.marked(0), 16);
        due("marked(1)", x.marked(1), 65535);
        due("marked(2)", x.marked(2), 16);
        x.untell(MARK);
        due("marked(0)", x.marked(0), 0);
    }

    private static void markedBelowNothing() {
        FoamHead x = foam(2, 1, 5);
        x.fill(1, 0, 7);
        due("text", text(x, MARK, "5-g"), 1);
        due("marked(0): -2 isn't 0", x.marked(0), 1);
        due("marked(1)", x.marked(1), 2);
        due("marked(2)", x.marked(2), -2);
        due("text", text(x, MARK, "g-6"), 1);
        due("marked(0): together 0", x.marked(0), 2);
        due("marked(2)", x.marked(2), 0);
    }

    private static void markedWraps() {
        FoamHead x = foam(2, 1, 5);
        due("text", text(x, MARK, "8192*8192*31"), 1);
        due("mark", x.bubbleIs(0, 8), 8192 * 8192 * 31);
        due("marked(2)", x.marked(2), 8192 * 8192 * 62);
        due("text", text(x, MARK, "8192*8192*32"), 1);
        due("marked(0)", x.marked(0), 2);
        due("marked(2)", x.marked(2), 0);
    }

    private static void markedThatLookLikeErrors() {
        FoamHead x = foam(1, 1, 5);
        due("text", text(x, MARK, "0-1000*1000-3"), 1);
        due("mark", x.bubbleIs(0, 8), STATE);
        due("marked(2)", x.marked(2), STATE);
        due("told(3): it is a number", x.told(3), 0);
    }
}
