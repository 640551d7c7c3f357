/** Promises 1 to 13: bubbles and walls. */
public final class BubblesTest extends Checks {
    public static void main(String[] args) {
        aNewObject();
        makesAFoam();
        makesRings();
        tellsOfABubble();
        knowsKinds();
        fills();
        tellsRings();
        knowsWhoIsBeside();
        knowsEnds();
        knowsWhatCanBe();
        turns();
        turnsBesideGlass();
        vanishes();
        bursts();
        burstsAtTheGlass();
        end();
    }

    private static void aNewObject() {
        FoamHead x = new FoamHead();
        due("count(0)", x.count(0), 0);
        due("count(1)", x.count(1), 0);
        due("count(2)", x.count(2), 0);
        due("count(3)", x.count(3), 0);
        due("bubbleIs(0, 0)", x.bubbleIs(0, 0), BEYOND);
        due("tick(3)", x.tick(3), 0);
        due("count(3)", x.count(3), 3);
        for (int what = 0; what < 6; what++) {
            due("all(" + what + ")", x.all(what), 0);
        }
    }

    private static void makesAFoam() {
        FoamHead x = new FoamHead();
        due("foam(0, 1, 0)", x.foam(0, 1, 0), BEYOND);
        due("foam(1, 0, 0)", x.foam(1, 0, 0), BEYOND);
        due("foam(5, 1, 0)", x.foam(5, 1, 0), BEYOND);
        due("foam(1, 5, 0)", x.foam(1, 5, 0), BEYOND);
        due("foam(1, 1, -1)", x.foam(1, 1, -1), BEYOND);
        due("foam(1, 1, 100000)", x.foam(1, 1, 100000), BEYOND);
        due("count(0)", x.count(0), 0);
        due("foam(4, 4, 99999)", x.foam(4, 4, 99999), 16);
        due("all(0)", x.all(0), 16 * 99999);
        x.fill(0, 1, 50);
        x.become(3, 2);
        due("turn(5, 6)", x.turn(5, 6), 5);
        due("burst(9, 10)", x.burst(9, 10), 9);
        due("vanish(0)", x.vanish(0), 14);
        x.tick(1);
        x.fill(12, 1, 400);
        x.tick(1);
        due("foam(2, 3, 7)", x.foam(2, 3, 7), 6);
        due("count(0)", x.count(0), 6);
        due("count(1)", x.count(1), 63);
        due("count(3)", x.count(3), 0);
        due("all(0)", x.all(0), 42);
        for (int what = 1; what < 6; what++) {
            due("all(" + what + ")", x.all(what), 0);
        }
        for (int b = 0; b < 6; b++) {
            due("kind of " + b, x.bubbleIs(b, 0), 0);
            due("gas of " + b, x.bubbleIs(b, 1), 7);
            due("row of " + b, x.bubbleIs(b, 3), b / 2);
        }
        due("foam(9, 9, 9)", x.foam(9, 9, 9), BEYOND);
        due("count(0)", x.count(0), 6);
    }

    private static void makesRings() {
        FoamHead x = foam(3, 3, 1);
        dueRing(x, 0, 1, 3, 16);
        dueRing(x, 1, 0, 16, 2, 4, 3);
        dueRing(x, 2, 1, 16, 5, 4);
        dueRing(x, 3, 0, 1, 4, 7, 6, 16);
        dueRing(x, 4, 1, 2, 5, 8, 7, 3);
        dueRing(x, 5, 2, 16, 8, 4);
        dueRing(x, 6, 3, 7, 16);
        dueRing(x, 7, 3, 4, 8, 16, 6);
        dueRing(x, 8, 4, 5, 16, 7);
        due("count(2)", x.count(2), 16);
        dueRing(foam(1, 1, 1), 0, 16);
        x = foam(1, 4, 1);
        dueRing(x, 0, 1, 16);
        dueRing(x, 1, 0, 16, 2, 16);
        dueRing(x, 2, 1, 16, 3, 16);
        dueRing(x, 3, 2, 16);
        x = foam(4, 1, 1);
        dueRing(x, 0, 1, 16);
        dueRing(x, 1, 0, 16, 2, 16);
        dueRing(x, 3, 2, 16);
        x = foam(2, 2, 1);
        dueRing(x, 0, 1, 2, 16);
        dueRing(x, 1, 0, 16, 3, 2);
        dueRing(x, 2, 0, 1, 3, 16);
        dueRing(x, 3, 1, 16, 2);
    }

    private static void tellsOfABubble() {
        FoamHead x = foam(3, 3, 20);
        x.fill(3, 1, 8);
        x.become(3, 4);
        int[] want = {4, 20, 8, 1, 6, 1, 10, 6, 0};
        for (int what = 0; what < want.length; what++) {
            due("bubbleIs(3, " + what + ")", x.bubbleIs(3, what), want[what]);
        }
        due("bubbleIs(3, 9)", x.bubbleIs(3, 9), BEYOND);
        due("bubbleIs(3, -1)", x.bubbleIs(3, -1), BEYOND);
        due("bubbleIs(9, 0)", x.bubbleIs(9, 0), BEYOND);
        due("bubbleIs(-1, 0)", x.bubbleIs(-1, 0), BEYOND);
        due("bubbleIs(16, 0)", x.bubbleIs(16, 0), BEYOND);
        int[] lets = {12, 4, 7, 12, 6, 10, 12};
        int[] dry = {7, 7, 7, 3, 14, 0, 7};
        x.rule(1, 7);
        for (int kind = 0; kind < 7; kind++) {
            x.become(3, kind);
            due("lets of kind " + kind, x.bubbleIs(3, 7), lets[kind]);
            due("dry of kind " + kind, x.bubbleIs(3, 6), dry[kind]);
        }
        FoamHead narrow = foam(1, 3, 20);
        due("glasses", narrow.bubbleIs(1, 5), 2);
        due("glasses", narrow.bubbleIs(0, 5), 1);
    }

    private static void knowsKinds() {
        int[] above = {-1, 0, 1, 0, 0, 3, 0};
        FoamHead x = foam(1, 1, 33);
        for (int kind = 0; kind < 7; kind++) {
            due("become(0, " + kind + ")", x.become(0, kind), Math.max(0, kind - 1));
            for (int top = 0; top < 7; top++) {
                boolean is = false;
                for (int k = kind; k >= 0; k = above[k]) {
                    is |= k == top;
                }
                due("as(0, " + top + ") of kind " + kind, x.as(0, top), is ? 33 : KIND);
            }
        }
        due("as(1, 0)", x.as(1, 0), BEYOND);
        due("as(0, 7)", x.as(0, 7), BEYOND);
        due("as(0, -1)", x.as(0, -1), BEYOND);
        due("become(1, 0)", x.become(1, 0), BEYOND);
        due("become(0, 7)", x.become(0, 7), BEYOND);
        due("become(0, -1)", x.become(0, -1), BEYOND);
        due("bubbleIs(0, 0)", x.bubbleIs(0, 0), 6);
    }

    private static void fills() {
        FoamHead x = foam(2, 1, 5);
        due("fill(0, 0, 99999)", x.fill(0, 0, 99999), 5);
        due("fill(0, 0, 0)", x.fill(0, 0, 0), 99999);
        due("fill(1, 1, 99999)", x.fill(1, 1, 99999), 0);
        due("fill(1, 1, 4)", x.fill(1, 1, 4), 99999);
        due("fill(1, 1, 100000)", x.fill(1, 1, 100000), BEYOND);
        due("fill(1, 0, -1)", x.fill(1, 0, -1), BEYOND);
        due("fill(1, 2, 1)", x.fill(1, 2, 1), BEYOND);
        due("fill(1, -1, 1)", x.fill(1, -1, 1), BEYOND);
        due("fill(2, 0, 1)", x.fill(2, 0, 1), BEYOND);
        due("bubbleIs(0, 1)", x.bubbleIs(0, 1), 0);
        due("bubbleIs(1, 1)", x.bubbleIs(1, 1), 5);
        due("bubbleIs(1, 2)", x.bubbleIs(1, 2), 4);
    }

    private static void tellsRings() {
        FoamHead x = foam(3, 3, 1);
        due("ring(9, 0)", x.ring(9, 0), BEYOND);
        due("ring(-1, 0)", x.ring(-1, 0), BEYOND);
        due("ring(0, -1)", x.ring(0, -1), NONE);
        due("ring(0, 2147483647)", x.ring(0, Integer.MAX_VALUE), NONE);
        due("ring(0, -2147483648)", x.ring(0, Integer.MIN_VALUE), NONE);
    }

    private static void knowsWhoIsBeside() {
        FoamHead x = foam(3, 3, 1);
        due("beside(0, 1)", x.beside(0, 1), 1);
        due("beside(1, 0)", x.beside(1, 0), 1);
        due("beside(0, 4)", x.beside(0, 4), 0);
        due("beside(4, 4)", x.beside(4, 4), BEYOND);
        due("beside(4, 16)", x.beside(4, 16), BEYOND);
        due("beside(9, 4)", x.beside(9, 4), BEYOND);
    }

    private static void knowsEnds() {
        FoamHead x = foam(3, 3, 1);
        due("end(4, 5, 0)", x.end(4, 5, 0), 2);
        due("end(4, 5, 1)", x.end(4, 5, 1), 8);
        due("end(5, 4, 0)", x.end(5, 4, 0), 8);
        due("end(5, 4, 1)", x.end(5, 4, 1), 2);
        due("end(0, 1, 0)", x.end(0, 1, 0), 16);
        due("end(0, 1, 1)", x.end(0, 1, 1), 3);
        due("end(0, 8, 0)", x.end(0, 8, 0), STATE);
        due("end(4, 4, 0)", x.end(4, 4, 0), STATE);
        due("end(4, 5, 2)", x.end(4, 5, 2), BEYOND);
        due("end(0, 8, -1)", x.end(0, 8, -1), BEYOND);
        due("end(0, 9, 0)", x.end(0, 9, 0), BEYOND);
        due("end(0, 16, 0)", x.end(0, 16, 0), BEYOND);
    }

    private static void knowsWhatCanBe() {
        FoamHead x = foam(3, 3, 1);
        due("can(0, 4, 5)", x.can(0, 4, 5), 1);
        due("can(0, 1, 2)", x.can(0, 1, 2), 1);
        due("can(0, 0, 1): 3 sides", x.can(0, 0, 1), 0);
        due("can(0, 1, 0): 3 sides", x.can(0, 1, 0), 0);
        due("can(1, 4, 5)", x.can(1, 4, 5), 1);
        due("can(1, 3, 1): an end of 3 sides", x.can(1, 3, 1), 0);
        due("can(2, 0, 99)", x.can(2, 0, 99), 1);
        due("can(2, 1, 0)", x.can(2, 1, 0), STATE);
        due("can(0, 0, 8)", x.can(0, 0, 8), STATE);
        due("can(1, 0, 8)", x.can(1, 0, 8), STATE);
        due("can(1, 4, 4)", x.can(1, 4, 4), STATE);
        due("can(3, 4, 5)", x.can(3, 4, 5), BEYOND);
        due("can(-1, 4, 5)", x.can(-1, 4, 5), BEYOND);
        due("can(0, 4, 9)", x.can(0, 4, 9), BEYOND);
        due("can(1, 9, 4)", x.can(1, 9, 4), BEYOND);
        due("can(2, 9, 4)", x.can(2, 9, 4), BEYOND);
        x = foam(4, 2, 1);
        due("can(0, 1, 5)", x.can(0, 1, 5), 1);
        due("can(1, 1, 5): glass is beside both", x.can(1, 1, 5), 0);
    }

    private static void turns() {
        FoamHead x = foam(3, 3, 1);
        due("turn(3, 4)", x.turn(3, 4), 5);
        dueRing(x, 3, 0, 1, 7, 6, 16);
        dueRing(x, 4, 1, 2, 5, 8, 7);
        dueRing(x, 1, 0, 16, 2, 4, 7, 3);
        dueRing(x, 7, 1, 4, 8, 16, 6, 3);
        due("beside(3, 4)", x.beside(3, 4), 0);
        due("beside(1, 7)", x.beside(1, 7), 1);
        due("count(2)", x.count(2), 16);
        due("all(3)", x.all(3), 1);
        due("turn(7, 1)", x.turn(7, 1), 5);
        dueRing(x, 3, 0, 1, 4, 7, 6, 16);
        dueRing(x, 4, 1, 2, 5, 8, 7, 3);
        due("turn(0, 1)", x.turn(0, 1), STATE);
        due("turn(0, 8)", x.turn(0, 8), STATE);
        due("turn(4, 4)", x.turn(4, 4), STATE);
        due("turn(4, 9)", x.turn(4, 9), BEYOND);
        due("turn(16, 4)", x.turn(16, 4), BEYOND);
        due("all(3)", x.all(3), 2);
    }

    private static void turnsBesideGlass() {
        FoamHead x = foam(3, 3, 1);
        due("can(0, 7, 8)", x.can(0, 7, 8), 1);
        due("turn(2, 5)", x.turn(2, 5), 3);
        dueRing(x, 2, 1, 16, 4);
        dueRing(x, 5, 4, 16, 8);
        dueRing(x, 4, 1, 2, 16, 5, 8, 7, 3);
        due("can(0, 7, 8): both ends touch", x.can(0, 7, 8), 0);
        due("turn(7, 8)", x.turn(7, 8), STATE);
        due("count(2)", x.count(2), 15);
        x = foam(2, 1, 1);
        due("can(0, 0, 1)", x.can(0, 0, 1), 0);
        x = foam(1, 3, 1);
        due("turn(0, 1)", x.turn(0, 1), STATE);
    }

    private static void vanishes() {
        FoamHead x = foam(3, 3, 10);
        due("vanish(0)", x.vanish(0), 8);
        dueRing(x, 1, 2, 4, 3, 16);
        dueRing(x, 3, 1, 4, 7, 6, 16);
        due("bubbleIs(0, 0)", x.bubbleIs(0, 0), BEYOND);
        due("vanish(0)", x.vanish(0), BEYOND);
        due("vanish(1)", x.vanish(1), STATE);
        due("vanish(-1)", x.vanish(-1), BEYOND);
        due("count(1)", x.count(1), 510);
        due("all(0)", x.all(0), 80);
        due("all(4)", x.all(4), 1);
        x = foam(2, 2, 1);
        due("can(2, 3, 0)", x.can(2, 3, 0), 1);
        due("vanish(0)", x.vanish(0), 3);
        due("can(2, 3, 0)", x.can(2, 3, 0), 0);
        due("vanish(3)", x.vanish(3), STATE);
        due("all(4)", x.all(4), 1);
        x = foam(2, 1, 1);
        due("vanish(0): 2 sides", x.vanish(0), STATE);
    }

    private static void bursts() {
        FoamHead x = foam(3, 3, 60000);
        x.fill(4, 1, 30);
        x.fill(5, 1, 12);
        x.become(4, 5);
        due("burst(5, 4)", x.burst(5, 4), 4);
        dueRing(x, 4, 1, 2, 16, 8, 7, 3);
        dueRing(x, 2, 1, 16, 4);
        dueRing(x, 8, 4, 16, 7);
        due("kind", x.bubbleIs(4, 0), 6);
        due("gas", x.bubbleIs(4, 1), 99999);
        due("water", x.bubbleIs(4, 2), 42);
        due("row", x.bubbleIs(4, 3), 1);
        due("bubbleIs(5, 0)", x.bubbleIs(5, 0), BEYOND);
        due("all(5)", x.all(5), 1);
        due("all(2)", x.all(2), 0);
        due("count(0)", x.count(0), 8);
        x = foam(4, 4, 5);
        due("burst(5, 9)", x.burst(5, 9), 5);
        dueRing(x, 5, 1, 2, 6, 10, 13, 12, 8, 4);
        due("row", x.bubbleIs(5, 3), 1);
        dueRing(x, 8, 4, 5, 12, 16);
        dueRing(x, 10, 5, 6, 11, 14, 13);
        dueRing(x, 13, 5, 10, 14, 16, 12);
        x = foam(3, 3, 1);
        x.fill(4, 1, 99999);
        x.fill(5, 1, 99999);
        x.burst(4, 5);
        due("water", x.bubbleIs(4, 2), 99999);
    }

    private static void burstsAtTheGlass() {
        FoamHead x = foam(3, 3, 2);
        due("can(1, 0, 1)", x.can(1, 0, 1), 1);
        due("burst(1, 0)", x.burst(1, 0), 0);
        dueRing(x, 0, 2, 4, 3, 16);
        dueRing(x, 3, 0, 4, 7, 6, 16);
        dueRing(x, 2, 0, 16, 5, 4);
        due("burst(0, 1)", x.burst(0, 1), BEYOND);
        due("burst(0, 8)", x.burst(0, 8), STATE);
        due("burst(0, 0)", x.burst(0, 0), STATE);
        due("all(5)", x.all(5), 1);
        x = foam(4, 2, 1);
        due("burst(1, 5)", x.burst(1, 5), STATE);
        x = foam(2, 1, 1);
        due("burst(0, 1)", x.burst(0, 1), STATE);
    }
}
