/** Term 1, promises 1 to 13: a test of its own for each sentence that names an edge. */
public final class BubbleEdgesTest extends Checks {
    public static void main(String[] args) {
        noBubblesAtFirst();
        anyCallOnNoFoam();
        sixteenBubblesAtMost();
        foamOfEachShape();
        foamWithLeastAndMostGas();
        foamInPlaceOfAGreaterOne();
        foamEndsWhatWasCounted();
        foamLeavesAllElse();
        ringOfGlassAlone();
        glassesRightBehindOneAnother();
        glassesApartStay();
        oddAndEvenRows();
        glassHasNoRing();
        ringToldFromTheLeast();
        endsGoRound();
        endsInARingOfTwo();
        oneAndTheSame();
        turnNeedsFourSidesOfBoth();
        turnNeedsTwoEnds();
        turnNotIfEndsAreBeside();
        turnNotIfGlassIsBeside();
        turnGivesGlass();
        vanishOfThreeSides();
        vanishNeedsFourSidesBeside();
        burstNeedsTwoEnds();
        burstNeedsFourSidesOfEnds();
        burstWithGlassAsAnEnd();
        burstNotIfOneMoreIsBeside();
        burstNotIfGlassIsBeside();
        burstHoldsGasAndWater();
        burstLeavesTheLesser();
        burstKeepsEndsOnce();
        canVanishWhateverBIs();
        fillsLeastAndMost();
        kindsOneByOne();
        whatIsGoneNeverWas();
        end();
    }

    // ---- promise 1

    private static void noBubblesAtFirst() {
        FoamHead x = new FoamHead();
        int[] counts = {0, 0, 0, 0, 0, 0, 0, 1};
        for (int what = 0; what < counts.length; what++) {
            due("count(" + what + ")", x.count(what), counts[what]);
        }
        for (int what = 0; what < 6; what++) {
            due("all(" + what + ")", x.all(what), 0);
        }
        for (int b = -1; b <= 16; b++) {
            due("bubbleIs(" + b + ", 0)", x.bubbleIs(b, 0), BEYOND);
        }
        due("told(1)", x.told(1), 18);
        for (int k = 2; k <= 6; k++) {
            due("told(" + k + ")", x.told(k), 0);
        }
    }

    private static void anyCallOnNoFoam() {
        FoamHead x = new FoamHead();
        due("as", x.as(0, 0), BEYOND);
        due("become", x.become(0, 0), BEYOND);
        due("fill", x.fill(0, 0, 0), BEYOND);
        due("ring", x.ring(0, 0), BEYOND);
        due("beside", x.beside(0, 1), BEYOND);
        due("end", x.end(0, 1, 0), BEYOND);
        due("can", x.can(2, 0, 0), BEYOND);
        due("turn", x.turn(0, 1), BEYOND);
        due("vanish", x.vanish(0), BEYOND);
        due("burst", x.burst(0, 1), BEYOND);
        due("passes", x.passes(0, 1), BEYOND);
        due("pace", x.pace(0), BEYOND);
        due("way", x.way(0, 0), BEYOND);
        due("colour", x.colour(1, 0), BEYOND);
        due("voice", x.voice(0, 0, 0), BEYOND);
        due("check", x.check(0), BEYOND);
        due("told(1)", x.told(1), 16);
        due("tick", x.tick(60), 0);
        due("count(3)", x.count(3), 60);
        due("stands", x.stands(0, 60), 0);
        due("sides", x.sides(0), 0);
        due("around", x.around(0), NONE);
        due("first", x.first(0), NONE);
        due("apart", x.apart(0) + x.apart(1), 0);
        due("marked", x.marked(0) + x.marked(1) + x.marked(2), 0);
        x.sheet(0, 8, 3);
        due("gases", x.gases(0), 0);
        due("image", x.image(), 1);
        due("restore", x.restore(), 0);
    }

    // ---- promise 2, "at most 16"

    private static void sixteenBubblesAtMost() {
        FoamHead x = foam(4, 4, 1);
        due("kind of 15", x.bubbleIs(15, 0), 0);
        due("16 is GLASS, no BUBBLE", x.bubbleIs(16, 0), BEYOND);
        due("kind of -1", x.bubbleIs(-1, 0), BEYOND);
        due("count(1)", x.count(1), 65535);
    }

    private static void foamOfEachShape() {
        FoamHead x = new FoamHead();
        for (int w = 1; w <= 4; w++) {
            for (int h = 1; h <= 4; h++) {
                int n = w * h;
                due("foam(" + w + ", " + h + ", 3)", x.foam(w, h, 3), n);
                due("count(1)", x.count(1), (1 << n) - 1);
                due("row of the last", x.bubbleIs(n - 1, 3), h - 1);
                due("the one behind the last", x.bubbleIs(n, 0), BEYOND);
            }
        }
    }

    private static void foamWithLeastAndMostGas() {
        due("gas 0", foam(1, 1, 0).bubbleIs(0, 1), 0);
        due("gas 99999", foam(1, 1, 99999).bubbleIs(0, 1), 99999);
        due("all(0)", foam(4, 4, 99999).all(0), 1599984);
    }

    private static void foamInPlaceOfAGreaterOne() {
        FoamHead x = foam(4, 4, 7);
        for (int b = 0; b < 16; b++) {
            x.become(b, b % 7);
            x.fill(b, 1, 99);
        }
        due("foam(3, 2, 8)", x.foam(3, 2, 8), 6);
        for (int b = 0; b < 6; b++) {
            due("kind of " + b, x.bubbleIs(b, 0), 0);
            due("gas of " + b, x.bubbleIs(b, 1), 8);
            due("water of " + b, x.bubbleIs(b, 2), 0);
        }
        for (int b = 6; b < 16; b++) {
            due("kind of " + b, x.bubbleIs(b, 0), BEYOND);
        }
        due("all(1)", x.all(1), 0);
    }

    private static void foamEndsWhatWasCounted() {
        FoamHead x = stillFoam(4, 4, 5);
        x.turn(5, 6);
        x.vanish(0);
        x.burst(9, 10);
        x.fill(12, 1, 400);
        x.tick(2);
        for (int what = 2; what < 6; what++) {
            due("all(" + what + ") is not 0", x.all(what) > 0 ? 1 : 0, 1);
        }
        due("count(3)", x.count(3), 2);
        x.foam(4, 4, 5);
        for (int what = 1; what < 6; what++) {
            due("all(" + what + ")", x.all(what), 0);
        }
        due("count(3)", x.count(3), 0);
    }

    private static void foamLeavesAllElse() {
        FoamHead x = foam(2, 2, 5);
        x.rule(0, 99);
        x.rule(1, 999);
        x.rule(2, 99);
        x.seed(-3);
        due("text", text(x, MARK, "7"), 1);
        x.voice(1, 0, 5);
        feed(x, "s");
        tell(x, 1, 2, 16);
        x.sheet(0, 8, 2);
        x.image();
        x.foam(2, 2, 6);
        due("trace", x.count(6), 1);
        due("waiting", x.check(0), 0);
        due("mark", x.bubbleIs(0, 8), 7);
        due("tape", x.count(4), 1);
        due("z", x.count(7), -3);
        due("RATE", x.rule(0, 1), 99);
        due("DRYNESS", x.rule(1, 1), 999);
        due("ODDS", x.rule(2, 1), 99);
        due("sheet", x.gases(0), 2);
        due("restore", x.restore(), 4);
        due("gas", x.bubbleIs(3, 1), 5);
    }

    // ---- RINGS

    private static void ringOfGlassAlone() {
        FoamHead x = foam(1, 1, 5);
        dueRing(x, 0, 16);
        due("glasses", x.bubbleIs(0, 5), 1);
        due("walls", x.count(2), 0);
        due("pace", x.pace(0), -50);
    }

    /** Also where the row of GLASSES goes over the end: the RING closes. */
    private static void glassesRightBehindOneAnother() {
        FoamHead x = foam(4, 4, 5);
        int[] glasses = {1, 1, 1, 1, 1, 0, 0, 1, 1, 0, 0, 1, 1, 1, 1, 1};
        int[] sides = {3, 5, 5, 4, 6, 6, 6, 4, 4, 6, 6, 6, 4, 5, 5, 3};
        for (int b = 0; b < 16; b++) {
            due("glasses of " + b, x.bubbleIs(b, 5), glasses[b]);
            due("sides of " + b, x.bubbleIs(b, 4), sides[b]);
        }
        dueRing(x, 3, 2, 16, 7, 6);
        dueRing(x, 7, 3, 16, 11, 6);
        dueRing(x, 8, 4, 9, 12, 16);
        dueRing(x, 15, 11, 16, 14);
        dueRing(foam(3, 1, 5), 0, 1, 16);
        dueRing(foam(3, 1, 5), 2, 1, 16);
    }

    private static void glassesApartStay() {
        FoamHead x = foam(3, 1, 5);
        dueRing(x, 1, 0, 16, 2, 16);
        due("glasses", x.bubbleIs(1, 5), 2);
        x = foam(1, 4, 5);
        dueRing(x, 1, 0, 16, 2, 16);
        dueRing(x, 2, 1, 16, 3, 16);
        due("glasses", x.bubbleIs(2, 5), 2);
    }

    private static void oddAndEvenRows() {
        FoamHead x = foam(3, 4, 5);
        dueRing(x, 4, 1, 2, 5, 8, 7, 3);
        dueRing(x, 7, 3, 4, 8, 10, 9, 6);
        dueRing(x, 3, 0, 1, 4, 7, 6, 16);
        dueRing(x, 6, 3, 7, 9, 16);
        dueRing(x, 5, 2, 16, 8, 4);
        dueRing(x, 8, 4, 5, 16, 11, 10, 7);
    }

    private static void glassHasNoRing() {
        FoamHead x = foam(4, 4, 5);
        due("ring(16, 0)", x.ring(16, 0), BEYOND);
        due("beside(16, 0)", x.beside(16, 0), BEYOND);
        due("beside(0, 16)", x.beside(0, 16), BEYOND);
        due("end(0, 16, 0)", x.end(0, 16, 0), BEYOND);
        due("can(0, 0, 16)", x.can(0, 0, 16), BEYOND);
        due("can(1, 16, 0)", x.can(1, 16, 0), BEYOND);
        due("can(2, 16, 0)", x.can(2, 16, 0), BEYOND);
        due("turn(4, 16)", x.turn(4, 16), BEYOND);
        due("burst(4, 16)", x.burst(4, 16), BEYOND);
        due("passes(4, 16)", x.passes(4, 16), BEYOND);
        due("way(4, 16)", x.way(4, 16), BEYOND);
        due("walls to GLASS are none", x.count(2), 33);
    }

    // ---- promise 7

    private static void ringToldFromTheLeast() {
        FoamHead x = foam(4, 4, 5);
        dueRing(x, 5, 1, 2, 6, 10, 9, 4);
        due("burst(5, 4)", x.burst(5, 4), 4);
        dueRing(x, 4, 0, 1, 2, 6, 10, 9, 8, 16);
        dueRing(x, 9, 4, 10, 13, 12, 8);
        due("ring(9, 4)", x.ring(9, 4), 8);
        due("ring(9, 5)", x.ring(9, 5), NONE);
    }

    // ---- promise 9

    private static void endsGoRound() {
        FoamHead x = foam(4, 4, 5);
        due("ahead of the first in the RING of 5", x.end(5, 1, 0), 4);
        due("behind the first", x.end(5, 1, 1), 2);
        due("ahead of the last", x.end(5, 4, 0), 9);
        due("behind the last in the RING of 5", x.end(5, 4, 1), 1);
        due("ahead of 1 in the RING of 0", x.end(0, 1, 0), 16);
        due("behind 4 in the RING of 0", x.end(0, 4, 1), 16);
    }

    private static void endsInARingOfTwo() {
        FoamHead x = foam(2, 1, 5);
        due("end(0, 1, 0)", x.end(0, 1, 0), 16);
        due("end(0, 1, 1)", x.end(0, 1, 1), 16);
        x = foam(1, 3, 5);
        due("end(1, 0, 0)", x.end(1, 0, 0), 16);
        due("end(1, 2, 1)", x.end(1, 2, 1), 16);
    }

    // ---- promise 8

    private static void oneAndTheSame() {
        FoamHead x = foam(2, 2, 5);
        due("beside(1, 1)", x.beside(1, 1), BEYOND);
        due("told(1)", x.told(1), 1);
        due("end(1, 1, 0)", x.end(1, 1, 0), STATE);
        due("can(0, 1, 1)", x.can(0, 1, 1), STATE);
        due("can(1, 1, 1)", x.can(1, 1, 1), STATE);
        due("turn(1, 1)", x.turn(1, 1), STATE);
        due("burst(1, 1)", x.burst(1, 1), STATE);
        due("passes(1, 1)", x.passes(1, 1), STATE);
        due("told(3)", x.told(3), 6);
        due("way(1, 1)", x.way(1, 1), 0);
    }

    // ---- promises 10, 11: TURN

    private static void turnNeedsFourSidesOfBoth() {
        FoamHead x = foam(3, 3, 5);
        due("sides of 0", x.bubbleIs(0, 4), 3);
        due("can(0, 0, 1): a has 3", x.can(0, 0, 1), 0);
        due("can(0, 1, 0): b has 3", x.can(0, 1, 0), 0);
        due("turn(0, 1)", x.turn(0, 1), STATE);
        due("turn(1, 0)", x.turn(1, 0), STATE);
        due("turn(1, 3): 0 is an END", x.turn(1, 3), 4);
        dueRing(x, 0, 1, 4, 3, 16);
        due("can(0, 0, 1): a has 4", x.can(0, 0, 1), 1);
        due("can(0, 1, 0): b has 4", x.can(0, 1, 0), 1);
        due("turn(0, 1)", x.turn(0, 1), 3);
        due("turn(0, 4): a has 3 again", x.turn(0, 4), STATE);
    }

    private static void turnNeedsTwoEnds() {
        FoamHead x = foam(4, 1, 5);
        due("sides of 1", x.bubbleIs(1, 4), 4);
        due("sides of 2", x.bubbleIs(2, 4), 4);
        due("can(0, 1, 2): GLASS is both ENDS", x.can(0, 1, 2), 0);
        due("turn(1, 2)", x.turn(1, 2), STATE);
        due("can(0, 2, 1)", foam(1, 4, 5).can(0, 2, 1), 0);
    }

    /** 3 and 8 have come beside one another round 2, so that 1 and 4 can't be turned away from between them. */
    private static FoamHead knotted() {
        FoamHead x = foam(3, 4, 5);
        due("turn(5, 4)", x.turn(5, 4), 3);
        due("turn(9, 7)", x.turn(9, 7), 3);
        due("turn(10, 7)", x.turn(10, 7), 5);
        due("turn(6, 7)", x.turn(6, 7), 5);
        due("turn(4, 2)", x.turn(4, 2), 4);
        return x;
    }

    private static void turnNotIfEndsAreBeside() {
        FoamHead x = knotted();
        due("end(1, 4, 0)", x.end(1, 4, 0), 8);
        due("end(1, 4, 1)", x.end(1, 4, 1), 3);
        due("beside(3, 8)", x.beside(3, 8), 1);
        due("sides of 1 and 4", Math.min(x.bubbleIs(1, 4), x.bubbleIs(4, 4)), 4);
        due("can(0, 1, 4)", x.can(0, 1, 4), 0);
        due("turn(4, 1)", x.turn(4, 1), STATE);
    }

    /** Either way round: 4 got GLASS in its RING, 8 and 7 have had it. */
    private static void turnNotIfGlassIsBeside() {
        FoamHead x = foam(3, 3, 5);
        due("can(0, 7, 8): 4 has no GLASS yet", x.can(0, 7, 8), 1);
        due("turn(2, 5)", x.turn(2, 5), 3);
        due("end(7, 8, 1) is GLASS", x.end(7, 8, 1), 16);
        due("end(7, 8, 0) has GLASS", x.end(7, 8, 0), 4);
        due("can(0, 7, 8)", x.can(0, 7, 8), 0);
        due("can(0, 8, 7)", x.can(0, 8, 7), 0);
        due("turn(7, 8)", x.turn(7, 8), STATE);
        due("turn(8, 7)", x.turn(8, 7), STATE);
    }

    private static void turnGivesGlass() {
        FoamHead x = foam(3, 3, 5);
        due("turn(5, 8)", x.turn(5, 8), 3);
        dueRing(x, 4, 1, 2, 5, 16, 8, 7, 3);
        dueRing(x, 5, 2, 16, 4);
        dueRing(x, 8, 4, 16, 7);
        due("walls: one less", x.count(2), 15);
    }

    // ---- promises 10, 12: VANISH

    private static void vanishOfThreeSides() {
        FoamHead x = foam(3, 3, 5);
        due("vanish(0): 3", x.vanish(0), 8);
        due("vanish(1): 4", x.vanish(1), STATE);
        due("can(2, 1, 0): 4", x.can(2, 1, 0), STATE);
        x = foam(2, 1, 5);
        due("vanish(0): 2", x.vanish(0), STATE);
        due("can(2, 0, 1): 2", x.can(2, 0, 1), STATE);
        x = foam(1, 1, 5);
        due("vanish(0): 1", x.vanish(0), STATE);
        due("can(2, 0, 0): 1", x.can(2, 0, 0), STATE);
    }

    private static void vanishNeedsFourSidesBeside() {
        FoamHead x = foam(2, 2, 5);
        dueRing(x, 0, 1, 2, 16);
        due("those beside 0 have just 4", x.bubbleIs(1, 4) + x.bubbleIs(2, 4), 8);
        due("can(2, 0, 0)", x.can(2, 0, 0), 1);
        due("vanish(0)", x.vanish(0), 3);
        for (int b = 1; b <= 3; b++) {
            due("can(2, " + b + ", 0): all have 3", x.can(2, b, 0), 0);
            due("vanish(" + b + ")", x.vanish(b), STATE);
        }
        x = foam(3, 3, 5);
        due("turn(2, 5)", x.turn(2, 5), 3);
        due("vanish(2): 1 has 5, 4 has 7, GLASS has none", x.vanish(2), 8);
        due("turn(1, 3)", x.turn(1, 3), 3);
        dueRing(x, 1, 0, 16, 4);
        due("can(2, 1, 0): 0 has 4, 4 has 7", x.can(2, 1, 0), 1);
        due("vanish(1)", x.vanish(1), 7);
        dueRing(x, 0, 3, 16, 4);
    }

    // ---- promises 10, 13: BURST

    private static void burstNeedsTwoEnds() {
        due("can(1, 0, 1) of 2 by 1", foam(2, 1, 5).can(1, 0, 1), 0);
        due("burst(1, 0) of 2 by 1", foam(2, 1, 5).burst(1, 0), STATE);
        due("can(1, 1, 2) of 4 by 1", foam(4, 1, 5).can(1, 1, 2), 0);
        due("can(1, 1, 2) of 1 by 4", foam(1, 4, 5).can(1, 1, 2), 0);
    }

    private static void burstNeedsFourSidesOfEnds() {
        FoamHead x = foam(3, 3, 5);
        due("can(1, 1, 3): 0 has 3", x.can(1, 1, 3), 0);
        due("can(1, 3, 1): 0 has 3", x.can(1, 3, 1), 0);
        due("burst(1, 3)", x.burst(1, 3), STATE);
        due("can(1, 4, 5): 2 and 8 have 4", x.can(1, 4, 5), 1);
        due("burst(4, 5)", x.burst(4, 5), 4);
        due("sides of 2 and 8", x.bubbleIs(2, 4) * 10 + x.bubbleIs(8, 4), 33);
    }

    private static void burstWithGlassAsAnEnd() {
        FoamHead x = foam(3, 3, 5);
        due("can(1, 0, 1): GLASS and 3", x.can(1, 0, 1), 1);
        due("can(1, 1, 0): 3 and GLASS", x.can(1, 1, 0), 1);
        due("burst(0, 1)", x.burst(0, 1), 0);
        dueRing(x, 0, 2, 4, 3, 16);
        due("glasses", x.bubbleIs(0, 5), 1);
    }

    private static void burstNotIfOneMoreIsBeside() {
        FoamHead x = knotted();
        due("end(1, 8, 0)", x.end(1, 8, 0), 2);
        due("end(1, 8, 1)", x.end(1, 8, 1), 4);
        due("sides of 2 and 4", Math.min(x.bubbleIs(2, 4), x.bubbleIs(4, 4)), 4);
        due("3 is beside both", x.beside(1, 3) + x.beside(8, 3), 2);
        due("can(1, 1, 8)", x.can(1, 1, 8), 0);
        due("can(1, 8, 1)", x.can(1, 8, 1), 0);
        due("burst(1, 8)", x.burst(1, 8), STATE);
    }

    private static void burstNotIfGlassIsBeside() {
        FoamHead x = foam(4, 2, 5);
        dueRing(x, 1, 0, 16, 2, 5, 4);
        dueRing(x, 5, 1, 2, 6, 16, 4);
        due("can(1, 1, 5): GLASS is no END", x.can(1, 1, 5), 0);
        due("burst(5, 1)", x.burst(5, 1), STATE);
        due("can(1, 1, 2): GLASS is an END", x.can(1, 1, 2), 1);
    }

    private static FoamHead burstOf(int gasOfOne, int gasOfOther, int water, int waterOfOther) {
        FoamHead x = foam(3, 3, 5);
        x.fill(4, 0, gasOfOne);
        x.fill(5, 0, gasOfOther);
        x.fill(4, 1, water);
        x.fill(5, 1, waterOfOther);
        due("burst(4, 5)", x.burst(4, 5), 4);
        return x;
    }

    private static void burstHoldsGasAndWater() {
        FoamHead x = burstOf(50000, 49998, 99999, 0);
        due("gas", x.bubbleIs(4, 1), 99998);
        due("water", x.bubbleIs(4, 2), 99999);
        x = burstOf(50000, 49999, 1, 99997);
        due("gas", x.bubbleIs(4, 1), 99999);
        due("water", x.bubbleIs(4, 2), 99998);
        x = burstOf(50000, 50000, 50000, 50000);
        due("gas", x.bubbleIs(4, 1), 99999);
        due("water", x.bubbleIs(4, 2), 99999);
        due("what is too much is not DRAINED", x.all(2), 0);
        x = burstOf(99999, 99999, 99999, 99999);
        due("gas", x.bubbleIs(4, 1), 99999);
        due("water", x.bubbleIs(4, 2), 99999);
        x = burstOf(0, 0, 0, 0);
        due("gas", x.bubbleIs(4, 1), 0);
        due("water", x.bubbleIs(4, 2), 0);
    }

    private static void burstLeavesTheLesser() {
        for (int turned = 0; turned < 2; turned++) {
            FoamHead x = foam(4, 4, 5);
            x.become(6, 5);
            x.become(10, 4);
            due("burst", turned == 0 ? x.burst(6, 10) : x.burst(10, 6), 6);
            due("kind", x.bubbleIs(6, 0), 6);
            due("row", x.bubbleIs(6, 3), 1);
            due("bubbleIs(10, 3)", x.bubbleIs(10, 3), BEYOND);
            dueRing(x, 6, 2, 3, 7, 11, 14, 13, 9, 5);
            dueRing(x, 13, 6, 14, 16, 12, 9);
            dueRing(x, 5, 1, 2, 6, 9, 4);
        }
    }

    private static void burstKeepsEndsOnce() {
        FoamHead x = foam(3, 3, 5);
        dueRing(x, 4, 1, 2, 5, 8, 7, 3);
        dueRing(x, 5, 2, 16, 8, 4);
        due("burst(4, 5)", x.burst(4, 5), 4);
        dueRing(x, 4, 1, 2, 16, 8, 7, 3);
        dueRing(x, 2, 1, 16, 4);
        dueRing(x, 8, 4, 16, 7);
        dueRing(x, 7, 3, 4, 8, 16, 6);
    }

    // ---- promise 10

    private static void canVanishWhateverBIs() {
        FoamHead x = foam(3, 3, 5);
        for (int b : new int[] {0, 1, 8, 9, 16, -1, MIN, MAX}) {
            due("can(2, 0, " + b + ")", x.can(2, 0, b), 1);
            due("can(2, 4, " + b + ")", x.can(2, 4, b), STATE);
        }
    }

    // ---- promise 6

    private static void fillsLeastAndMost() {
        FoamHead x = foam(2, 2, 5);
        for (int what = 0; what < 2; what++) {
            x.fill(3, what, 1);
            due("fill(3, " + what + ", 99999)", x.fill(3, what, 99999), 1);
            due("fill(3, " + what + ", 100000)", x.fill(3, what, 100000), BEYOND);
            due("fill(3, " + what + ", 0)", x.fill(3, what, 0), 99999);
            due("fill(3, " + what + ", -1)", x.fill(3, what, -1), BEYOND);
            due("fill(3, " + what + ", 0)", x.fill(3, what, 0), 0);
        }
    }

    // ---- promises 4, 5

    private static void kindsOneByOne() {
        FoamHead x = foam(2, 2, 5);
        due("become(2, 6): 6 is the last", x.become(2, 6), 0);
        due("become(2, 7)", x.become(2, 7), BEYOND);
        due("become(2, -1)", x.become(2, -1), BEYOND);
        due("become(2, 6): the same", x.become(2, 6), 6);
        due("become(2, 0)", x.become(2, 0), 6);
        due("as(2, 6): what is above is not under", x.as(2, 6), KIND);
        due("as(2, 0)", x.as(2, 0), 5);
        due("a row or more above", x.become(2, 2) + x.as(2, 0) + x.as(2, 1) + x.as(2, 2), 15);
        due("as(2, 3)", x.as(2, 3), KIND);
    }

    // ---- GONE

    private static void whatIsGoneNeverWas() {
        FoamHead x = foam(3, 3, 5);
        due("vanish(0)", x.vanish(0), 8);
        due("burst(4, 5)", x.burst(4, 5), 4);
        for (int gone : new int[] {0, 5, 9}) {
            for (int what = 0; what <= 8; what++) {
                due("bubbleIs(" + gone + ", " + what + ")", x.bubbleIs(gone, what), BEYOND);
            }
            due("fill(" + gone + ", 0, 1)", x.fill(gone, 0, 1), BEYOND);
            due("ring(" + gone + ", 0)", x.ring(gone, 0), BEYOND);
            for (int b = 1; b < 9; b++) {
                due("beside(" + b + ", " + gone + ")", x.beside(b, gone), BEYOND);
            }
        }
        due("all(0): one vanished with its GAS", x.all(0), 40);
        due("count(1)", x.count(1), 511 - 1 - 32);
        due("foam(3, 3, 5): all are there again", x.foam(3, 3, 5), 9);
        due("kind of 0", x.bubbleIs(0, 0), 0);
        due("kind of 5", x.bubbleIs(5, 0), 0);
    }
}
