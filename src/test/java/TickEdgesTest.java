/** Term 3, promises 17 to 22: a test of its own for each sentence that names an edge. */
public final class TickEdgesTest extends Checks {
    public static void main(String[] args) {
        ratesFromTo();
        drynessFromTo();
        oddsFromTo();
        ruleBesideTheThree();
        passesHeldAtMost();
        passesDoesNotWrap();
        passesCut();
        passesByLetsOfBoth();
        passesNotHeldByWhatThereIs();
        gasAtMostWhatItHas();
        gasAtMostTheRoom();
        gasOfTheLesserFirst();
        waterByFourOrEight();
        waterToEachAsMuch();
        waterToGreaterRowsAlone();
        waterOutAtTheGlass();
        waterThatCanGoNowhere();
        waterAsItWasAhead();
        waterKeptAtMost();
        drainedHeld();
        drawOfEachWall();
        drawThoughItCannotBurst();
        drawOnlyIfToBurst();
        restBelowP();
        noRestBelowNothing();
        wallsThatCameInTheSameStep();
        emptyVanishes();
        emptyThatCannotVanish();
        emptyOnesByNumbers();
        emptyTurnsTheFirstThatCan();
        emptyThatCannotTurn();
        emptyOfFewSides();
        tickOneToSixty();
        ticksUpToTheMost();
        standsNow();
        standsInTheLast();
        standsUpToTheMost();
        nothingOfThatStays();
        seedsOfAllKinds();
        drawsWrap();
        countsOfAll();
        end();
    }

    // ---- promise 17

    private static void ratesFromTo() {
        FoamHead x = new FoamHead();
        due("RATE at first", x.rule(0, 0), 10);
        due("RATE 0", x.rule(0, 99), 0);
        due("RATE 99", x.rule(0, 100), BEYOND);
        due("RATE -1", x.rule(0, -1), BEYOND);
        due("RATE", x.rule(0, 1), 99);
    }

    private static void drynessFromTo() {
        FoamHead x = new FoamHead();
        due("DRYNESS at first", x.rule(1, 0), 5);
        due("DRYNESS 0", x.rule(1, 999), 0);
        due("DRYNESS 1000", x.rule(1, 1000), BEYOND);
        due("DRYNESS -1", x.rule(1, -1), BEYOND);
        due("DRYNESS", x.rule(1, 1), 999);
    }

    private static void oddsFromTo() {
        FoamHead x = new FoamHead();
        due("ODDS at first", x.rule(2, 11), 12);
        int was = 11;
        for (int v = -20; v <= 120; v++) {
            boolean fits = v >= 0 && v / 10 <= 9 && v % 10 >= 1;
            due("ODDS " + v, x.rule(2, v), fits ? was : BEYOND);
            was = fits ? v : was;
        }
        due("ODDS", x.rule(2, 1), 99);
    }

    private static void ruleBesideTheThree() {
        FoamHead x = new FoamHead();
        due("rule(-1, 1)", x.rule(-1, 1), BEYOND);
        due("rule(3, 1)", x.rule(3, 1), BEYOND);
        due("rule(-1, MAX)", x.rule(-1, MAX), BEYOND);
    }

    // ---- promise 18

    private static void duePasses(FoamHead x, String law, int rate, int want) {
        due("text " + law, text(x, LAW, law), 1);
        x.rule(0, rate);
        due(rate + " times " + law, x.passes(0, 1), want);
        due(rate + " times " + law + ", the other way", x.passes(1, 0), -want);
    }

    private static void passesHeldAtMost() {
        FoamHead x = foam(2, 1, 5);
        duePasses(x, "9998", 1, 9998);
        duePasses(x, "9999", 1, 9999);
        duePasses(x, "9999+1", 1, 9999);
        duePasses(x, "0-9998", 1, -9998);
        duePasses(x, "0-9999", 1, -9999);
        duePasses(x, "0-9999-1", 1, -9999);
        duePasses(x, "101", 99, 9999);
        duePasses(x, "102", 99, 9999);
        duePasses(x, "100", 99, 9900);
        duePasses(x, "9999", 0, 0);
    }

    private static void passesDoesNotWrap() {
        FoamHead x = foam(2, 1, 5);
        duePasses(x, "8192*8192*16", 4, 9999);
        duePasses(x, "8192*8192*16", 2, 9999);
        duePasses(x, "8192*8192*32-1", 99, 9999);
        duePasses(x, "8192*8192*32", 2, -9999);
        duePasses(x, "8192*8192*32", 99, -9999);
        duePasses(x, "8192*8192*32", 1, -9999);
    }

    private static void passesCut() {
        FoamHead x = foam(2, 1, 5);
        x.become(0, 1);
        duePasses(x, "2", 1, 0);
        duePasses(x, "3", 1, 1);
        duePasses(x, "5", 1, 1);
        duePasses(x, "0-2", 1, 0);
        duePasses(x, "0-3", 1, -1);
        duePasses(x, "0-5", 1, -1);
        duePasses(x, "0-6", 1, -2);
    }

    private static void passesByLetsOfBoth() {
        int[] lets = {12, 4, 7, 12, 6, 10, 12};
        FoamHead x = foam(2, 1, 5);
        for (int kind = 0; kind < 7; kind++) {
            for (int other = 0; other < 7; other++) {
                x.become(0, kind);
                x.become(1, other);
                duePasses(x, "9999", 99, 9999 * lets[kind] * lets[other] / 144);
                duePasses(x, "0-9999", 99, -9999 * lets[kind] * lets[other] / 144);
            }
        }
    }

    private static void passesNotHeldByWhatThereIs() {
        FoamHead x = foam(2, 1, 0);
        duePasses(x, "9", 10, 90);
        x.fill(0, 0, 99999);
        x.fill(1, 0, 99999);
        duePasses(x, "9", 10, 90);
        due("gas", x.all(0), 199998);
    }

    // ---- promise 19, step 1

    /** Of two BUBBLES, of which the first gives 30, or gets 30. */
    private static void dueGas(int gas, int gasOfOther, boolean gives, int want) {
        FoamHead x = stillFoam(2, 1, 0);
        x.rule(0, 10);
        due("law", text(x, LAW, gives ? "3" : "0-3"), 1);
        x.fill(gives ? 0 : 1, 0, gas);
        x.fill(gives ? 1 : 0, 0, gasOfOther);
        x.tick(1);
        String call = "gas of " + gas + " and " + gasOfOther + " that passes";
        due(call, gas - x.bubbleIs(gives ? 0 : 1, 1), want);
        due(call, x.bubbleIs(gives ? 1 : 0, 1) - gasOfOther, want);
    }

    private static void gasAtMostWhatItHas() {
        for (int way = 0; way < 2; way++) {
            dueGas(31, 50, way == 0, 30);
            dueGas(30, 50, way == 0, 30);
            dueGas(29, 50, way == 0, 29);
            dueGas(1, 50, way == 0, 1);
            dueGas(0, 50, way == 0, 0);
        }
    }

    private static void gasAtMostTheRoom() {
        for (int way = 0; way < 2; way++) {
            dueGas(50, 99968, way == 0, 30);
            dueGas(50, 99969, way == 0, 30);
            dueGas(50, 99970, way == 0, 29);
            dueGas(50, 99998, way == 0, 1);
            dueGas(50, 99999, way == 0, 0);
            dueGas(99999, 99999, way == 0, 0);
            dueGas(5, 99996, way == 0, 3);
            dueGas(3, 99994, way == 0, 3);
        }
    }

    /** 0 gives to 1 ahead of 1 giving to 2. */
    private static void gasOfTheLesserFirst() {
        FoamHead x = stillFoam(1, 3, 0);
        x.rule(0, 10);
        due("law", text(x, LAW, "3"), 1);
        x.fill(0, 0, 20);
        x.tick(1);
        due("gas of 0", x.bubbleIs(0, 1), 0);
        due("gas of 1", x.bubbleIs(1, 1), 0);
        due("gas of 2", x.bubbleIs(2, 1), 20);
        due("law", text(x, LAW, "0-3"), 1);
        x.tick(1);
        due("gas of 1: its turn with 0 was ahead", x.bubbleIs(1, 1), 20);
        due("gas of 0", x.bubbleIs(0, 1), 0);
    }

    // ---- step 2

    private static void waterByFourOrEight() {
        int[] by = {4, 4, 4, 8, 4, 8, 4};
        for (int kind = 0; kind < 7; kind++) {
            for (int water : new int[] {0, 3, 4, 7, 8, 15, 16, 56, 99999}) {
                FoamHead x = stillFoam(1, 2, 5);
                x.become(0, kind);
                x.fill(0, 1, water);
                x.tick(1);
                String call = "of " + water + " of kind " + kind;
                due("what stays " + call, x.bubbleIs(0, 2), water - water / by[kind]);
                due("what goes " + call, x.bubbleIs(1, 2), water / by[kind]);
            }
        }
    }

    private static void waterToEachAsMuch() {
        int[][] twos = {{4, 0}, {7, 0}, {8, 1}, {11, 1}, {12, 1}, {15, 1}, {16, 2}, {99999, 12499}};
        for (int[] two : twos) {
            FoamHead x = stillFoam(3, 3, 5);
            x.fill(4, 1, two[0]);
            x.tick(1);
            due("of " + two[0] + ": 7", x.bubbleIs(7, 2), two[1]);
            due("of " + two[0] + ": 8", x.bubbleIs(8, 2), two[1]);
            due("of " + two[0] + ": what is left over it keeps", x.bubbleIs(4, 2), two[0] - 2 * two[1]);
            due("of " + two[0] + ": all", x.all(1), two[0]);
        }
        int[][] threes = {{11, 0}, {12, 1}, {23, 1}, {24, 2}, {44, 3}};
        for (int[] three : threes) {
            FoamHead x = stillFoam(3, 3, 5);
            due("burst(3, 4)", x.burst(3, 4), 3);
            x.fill(3, 1, three[0]);
            x.tick(1);
            for (int b = 6; b <= 8; b++) {
                due("of " + three[0] + ": " + b, x.bubbleIs(b, 2), three[1]);
            }
            due("of " + three[0] + ": 3", x.bubbleIs(3, 2), three[0] - 3 * three[1]);
        }
    }

    private static void waterToGreaterRowsAlone() {
        FoamHead x = stillFoam(3, 3, 5);
        x.fill(4, 1, 80);
        x.tick(1);
        int[] want = {0, 0, 0, 0, 60, 0, 0, 10, 10};
        for (int b = 0; b < 9; b++) {
            due("water of " + b, x.bubbleIs(b, 2), want[b]);
        }
    }

    private static void waterOutAtTheGlass() {
        FoamHead x = stillFoam(3, 3, 5);
        x.fill(3, 1, 80);
        x.tick(1);
        due("it has GLASS, but 6 and 7 stand below", x.all(2), 0);
        due("water of 3", x.bubbleIs(3, 2), 60);
        x = stillFoam(3, 3, 5);
        x.fill(7, 1, 7);
        x.tick(1);
        due("drained", x.all(2), 1);
        due("water of 7", x.bubbleIs(7, 2), 6);
        x.become(7, 3);
        x.tick(1);
        due("THICK: by 8", x.all(2), 1);
        x = stillFoam(1, 1, 5);
        x.fill(0, 1, 3);
        x.tick(1);
        due("3 by 4", x.all(2), 0);
        x.fill(0, 1, 99999);
        x.tick(1);
        due("drained", x.all(2), 24999);
        due("water", x.bubbleIs(0, 2), 75000);
    }

    /** 4 has lost those below, and has no GLASS. */
    private static FoamHead basin() {
        FoamHead x = stillFoam(3, 3, 5);
        due("turn(4, 8)", x.turn(4, 8), 5);
        due("turn(4, 7)", x.turn(4, 7), 4);
        dueRing(x, 4, 1, 2, 5, 3);
        return x;
    }

    private static void waterThatCanGoNowhere() {
        FoamHead x = basin();
        x.fill(4, 1, 99999);
        x.tick(3);
        due("water of 4", x.bubbleIs(4, 2), 99999);
        due("drained", x.all(2), 0);
    }

    private static void waterAsItWasAhead() {
        FoamHead x = stillFoam(1, 3, 5);
        x.fill(0, 1, 100);
        x.tick(1);
        due("water of 0", x.bubbleIs(0, 2), 75);
        due("water of 1", x.bubbleIs(1, 2), 25);
        due("water of 2", x.bubbleIs(2, 2), 0);
        x.tick(1);
        due("water of 0", x.bubbleIs(0, 2), 57);
        due("water of 1: 25 less 6, and 18", x.bubbleIs(1, 2), 37);
        due("water of 2", x.bubbleIs(2, 2), 6);
        due("drained", x.all(2), 0);
    }

    private static void waterKeptAtMost() {
        for (int over = -1; over <= 2; over++) {
            FoamHead x = basin();
            x.fill(4, 1, 99999 - 5 + over);
            x.fill(1, 1, 40);
            x.tick(1);
            due("water of 3", x.bubbleIs(3, 2), 5);
            due("water of 4", x.bubbleIs(4, 2), Math.min(99999, 99999 + over));
            due("the rest is drained", x.all(2), Math.max(0, over));
        }
        FoamHead x = basin();
        for (int b = 0; b < 3; b++) {
            x.fill(b, 1, 99999);
        }
        x.fill(4, 1, 99999);
        x.tick(1);
        due("water of 4: it had no room", x.bubbleIs(4, 2), 99999);
        due("drained: what 1 and 2 gave it", x.all(2), 12499 + 12499);
    }

    /**
     * No 512 calls drain so much, so this goes on longer than the document binds the object;
     * so that 9999 TICKS do it, nearly all stand beside the glass, or above those that do.
     */
    private static void drainedHeld() {
        FoamHead x = stillFoam(4, 4, 5);
        int[] turns = {2, 6, 3, 6, 11, 6, 7, 11, 9, 5, 8, 12, 5, 4, 4, 9, 11, 14, 14, 10, 10, 13, 3, 7, 9, 13, 4, 1, 1, 10};
        for (int i = 0; i < turns.length; i += 2) {
            due("turn", x.turn(turns[i], turns[i + 1]) > LOW ? 1 : 0, 1);
        }
        long drained = 0;
        for (int i = 0; i < 6857; i++) {
            tickOfAllFull(x);
            drained += 291654;
        }
        due("drained", x.all(2), drained);
        tickOfAllFull(x);
        due("drained: at most", x.all(2), 1999999999);
        tickOfAllFull(x);
        due("drained: once more", x.all(2), 1999999999);
    }

    private static void tickOfAllFull(FoamHead x) {
        for (int b = 0; b < 16; b++) {
            x.fill(b, 1, 99999);
        }
        x.tick(1);
    }

    // ---- step 3

    private static int drawn(int z) {
        return z * 1103515245 + 12345;
    }

    private static int drawn(int z, int n) {
        int last = z;
        for (int i = 0; i < n; i++) {
            last = drawn(last);
        }
        return last;
    }

    private static void drawOfEachWall() {
        FoamHead x = stillFoam(3, 3, 500);
        x.rule(2, 1);
        due("text", text(x, BURST, "1"), 1);
        due("walls", x.count(2), 16);
        x.tick(1);
        due("z: 16 draws", x.count(7), drawn(1, 16));
        x.tick(2);
        due("z: 32 more", x.count(7), drawn(1, 48));
    }

    private static void drawThoughItCannotBurst() {
        FoamHead x = stillFoam(2, 1, 500);
        x.rule(2, 99);
        due("text", text(x, BURST, "1"), 1);
        due("tick", x.tick(1), 2);
        due("z: a draw", x.count(7), drawn(1));
        due("all(5)", x.all(5), 0);
    }

    private static void drawOnlyIfToBurst() {
        FoamHead x = stillFoam(3, 3, 500);
        x.rule(2, 99);
        due("tick: BURST is 0", x.tick(1), 9);
        due("z: no draw", x.count(7), 1);
        due("text", text(x, BURST, "0-1"), 1);
        x.rule(2, 1);
        x.tick(1);
        due("z: below 0 is not 0", x.count(7), drawn(1, 16));
    }

    /** Just the WALL of 4 and 5 is to burst; it CAN. */
    private static int burstsWith(int seed, int p, int q) {
        FoamHead x = stillFoam(3, 3, 500);
        due("text", text(x, BURST, "w=2&v=3"), 1);
        x.fill(4, 1, 2);
        x.fill(5, 1, 3);
        x.seed(seed);
        x.rule(2, 10 * p + q);
        x.tick(1);
        due("z: one draw", x.count(7), drawn(seed));
        due("count(0)", x.count(0), 9 - x.all(5));
        return x.all(5);
    }

    private static void restBelowP() {
        for (int seed : new int[] {1, 2, 3, 4, 5, 77, -1, -2, 0, MIN, MAX}) {
            for (int q = 1; q <= 9; q++) {
                int rest = (drawn(seed) >>> 8) % q;
                due("seed " + seed + ", " + rest + " of " + q, burstsWith(seed, rest, q), 0);
                due("seed " + seed + ", " + (rest + 1) + " of " + q, burstsWith(seed, rest + 1, q), 1);
            }
        }
    }

    private static void noRestBelowNothing() {
        for (int seed = -4; seed <= 4; seed++) {
            for (int q = 1; q <= 9; q++) {
                due("seed " + seed + ", 0 of " + q, burstsWith(seed, 0, q), 0);
                due("seed " + seed + ", 9 of " + q, burstsWith(seed, 9, q), 1);
            }
        }
    }

    /** 0 and 3 come beside one another only as 1 bursts into 0. */
    private static void wallsThatCameInTheSameStep() {
        FoamHead x = stillFoam(2, 2, 500);
        due("text", text(x, BURST, "1"), 1);
        x.rule(2, 11);
        due("beside(0, 3)", x.beside(0, 3), 0);
        due("tick", x.tick(1), 3);
        dueRing(x, 0, 2, 16, 3);
        due("all(5)", x.all(5), 1);
        due("z: 0 with 1, 2, 3; 2 with 3", x.count(7), drawn(1, 4));
    }

    // ---- step 4

    private static void emptyVanishes() {
        FoamHead x = stillFoam(3, 3, 5);
        x.fill(0, 0, 1);
        due("tick: gas 1", x.tick(1), 9);
        due("all(3)", x.all(3), 0);
        x.fill(0, 0, 0);
        due("tick: gas 0", x.tick(1), 8);
        due("all(4)", x.all(4), 1);
        due("kind of 0", x.bubbleIs(0, 0), BEYOND);
    }

    private static void emptyThatCannotVanish() {
        FoamHead x = stillFoam(2, 2, 5);
        due("vanish(0)", x.vanish(0), 3);
        for (int b = 1; b <= 3; b++) {
            x.fill(b, 0, 0);
        }
        due("tick", x.tick(5), 3);
        due("all(3)", x.all(3), 0);
        due("all(4)", x.all(4), 1);
    }

    /** 3 could vanish, too, if 0 had not. */
    private static void emptyOnesByNumbers() {
        FoamHead x = stillFoam(2, 2, 5);
        x.fill(0, 0, 0);
        x.fill(3, 0, 0);
        due("tick", x.tick(1), 3);
        due("count(1)", x.count(1), 14);
        x = stillFoam(2, 2, 5);
        x.fill(3, 0, 0);
        due("tick", x.tick(1), 3);
        due("count(1)", x.count(1), 7);
    }

    /** Of the RING 0, 16, 2, 4, 3 of 1, 0 has 3 SIDES, and 16 is no BUBBLE. */
    private static void emptyTurnsTheFirstThatCan() {
        FoamHead x = stillFoam(3, 3, 5);
        x.fill(1, 0, 0);
        due("can(0, 1, 0)", x.can(0, 1, 0), 0);
        due("tick", x.tick(1), 9);
        dueRing(x, 1, 0, 16, 4, 3);
        dueRing(x, 4, 1, 16, 2, 5, 8, 7, 3);
        due("all(3): just one", x.all(3), 1);
        due("tick", x.tick(1), 9);
        dueRing(x, 1, 0, 16, 4);
        due("tick: 3 SIDES, and it CAN", x.tick(1), 8);
        due("all(3)", x.all(3), 2);
        due("all(4)", x.all(4), 1);
    }

    private static void emptyThatCannotTurn() {
        FoamHead x = stillFoam(1, 4, 0);
        due("sides of 1", x.bubbleIs(1, 4), 4);
        due("tick", x.tick(9), 4);
        due("all(3)", x.all(3), 0);
        dueRing(x, 1, 0, 16, 2, 16);
    }

    private static void emptyOfFewSides() {
        due("2 SIDES", stillFoam(2, 1, 0).tick(9), 2);
        due("1 SIDE", stillFoam(1, 1, 0).tick(9), 1);
    }

    // ---- promise 19, promise 20: how many TICKS

    private static void tickOneToSixty() {
        FoamHead x = foam(2, 2, 5);
        due("tick(0)", x.tick(0), BEYOND);
        due("tick(61)", x.tick(61), BEYOND);
        due("tick(-1)", x.tick(-1), BEYOND);
        due("count(3)", x.count(3), 0);
        x.tick(1);
        due("count(3)", x.count(3), 1);
        x.tick(60);
        due("count(3)", x.count(3), 61);
    }

    private static void ticksUpToTheMost() {
        for (int n = 1; n <= 60; n += 59) {
            FoamHead x = foam(1, 1, 5);
            ticks(x, 9999 - n + 1);
            due("tick(" + n + "): it would be 10000", x.tick(n), STATE);
            due("count(3)", x.count(3), 9999 - n + 1);
            x.foam(1, 1, 5);
            ticks(x, 9999 - n);
            due("tick(" + n + "): it is 9999", x.tick(n), 1);
            due("count(3)", x.count(3), 9999);
            due("tick(1)", x.tick(1), STATE);
            due("tick(60)", x.tick(60), STATE);
            due("tick(61)", x.tick(61), BEYOND);
        }
    }

    /** 4 of 3 by 3 is empty: it loses a SIDE in each of 3 TICKS, and vanishes in the next. */
    private static FoamHead fourTicksFromEight() {
        FoamHead x = stillFoam(3, 3, 5);
        x.fill(4, 0, 0);
        return x;
    }

    private static void standsNow() {
        FoamHead x = fourTicksFromEight();
        due("stands(16, 1)", x.stands(16, 1), 0);
        due("stands(10, 1)", x.stands(10, 1), 0);
        due("stands(9, 1)", x.stands(9, 1), 0);
        due("stands(8, 1)", x.stands(8, 1), NONE);
        due("stands(0, 60) of no FOAM", new FoamHead().stands(0, 60), 0);
    }

    private static void standsInTheLast() {
        FoamHead x = fourTicksFromEight();
        due("stands(8, 3)", x.stands(8, 3), NONE);
        due("stands(8, 4)", x.stands(8, 4), 4);
        due("stands(8, 60)", x.stands(8, 60), 4);
        due("stands(7, 60)", x.stands(7, 60), NONE);
        due("stands(0, 60)", x.stands(0, 60), NONE);
        due("tick(3)", x.tick(3), 9);
        due("stands(8, 1)", x.stands(8, 1), 1);
        due("tick(1)", x.tick(1), 8);
        due("stands(8, 1)", x.stands(8, 1), 0);
    }

    private static void standsUpToTheMost() {
        FoamHead x = fourTicksFromEight();
        x.fill(4, 0, 5);
        ticks(x, 9939);
        x.fill(4, 0, 0);
        due("stands(8, 60): 9999 at most", x.stands(8, 60), 4);
        x.fill(4, 0, 5);
        x.tick(1);
        x.fill(4, 0, 0);
        due("stands(8, 60): it would be 10000", x.stands(8, 60), STATE);
        due("stands(16, 60): as n says, whatever k is", x.stands(16, 60), STATE);
        due("stands(8, 59)", x.stands(8, 59), 4);
        due("stands(7, 59)", x.stands(7, 59), NONE);
        due("stands(17, 60)", x.stands(17, 60), BEYOND);
    }

    private static void nothingOfThatStays() {
        FoamHead x = waterlogged();
        due("stands(0, 60)", x.stands(0, 60), NONE);
        due("stands(15, 60) is in some TICK", x.stands(15, 60) > 0 ? 1 : 0, 1);
        due("what is seen", Sight.all(x), Sight.all(waterlogged()));
    }

    private static FoamHead waterlogged() {
        FoamHead x = foam(4, 4, 50);
        for (int b = 0; b < 16; b++) {
            x.fill(b, 1, 60 * b);
        }
        tell(x, 1, 4, 16);
        return x;
    }

    // ---- promises 21, 22

    private static void seedsOfAllKinds() {
        FoamHead x = foam(2, 2, 5);
        int was = 1;
        for (int v : new int[] {0, -1, MAX, MIN, BEYOND, STATE, 1}) {
            due("seed(" + v + ")", x.seed(v), was);
            due("count(7)", x.count(7), v);
            was = v;
        }
        for (int k = 1; k <= 6; k++) {
            due("told(" + k + "): a number is no ERROR", x.told(k), 0);
        }
    }

    private static void drawsWrap() {
        FoamHead x = stillFoam(2, 1, 500);
        due("text", text(x, BURST, "1"), 1);
        for (int z : new int[] {1, 0, -1, MIN, MAX, 2000000000}) {
            x.seed(z);
            x.tick(3);
            due("z of " + z, x.count(7), drawn(z, 3));
        }
    }

    private static void countsOfAll() {
        FoamHead x = stillFoam(3, 3, 5);
        due("all(-1)", x.all(-1), BEYOND);
        due("all(6)", x.all(6), BEYOND);
        x.fill(0, 0, 0);
        x.fill(1, 0, 0);
        x.turn(4, 5);
        due("tick", x.tick(1), 8);
        due("all(3): by a call, and in a TICK", x.all(3), 2);
        due("all(4): in a TICK", x.all(4), 1);
        x.fill(1, 0, 5);
        due("vanish(6)", x.vanish(6), 7);
        due("all(4): by a call", x.all(4), 2);
        due("text", text(x, BURST, "w=2&v=3"), 1);
        x.rule(2, 99);
        x.fill(2, 1, 2);
        x.fill(4, 1, 3);
        due("beside(2, 4)", x.beside(2, 4), 1);
        due("can(1, 2, 4)", x.can(1, 2, 4), 1);
        due("tick", x.tick(1), 6);
        due("all(5): in a TICK", x.all(5), 1);
        due("burst(1, 3)", x.burst(1, 3), 1);
        due("all(5): by a call", x.all(5), 2);
    }
}
