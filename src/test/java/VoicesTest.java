/** Promises 31 to 42: voices, sheets, images, what is told. */
public final class VoicesTest extends Checks {
    public static void main(String[] args) {
        speaks();
        traces();
        parts();
        wrapsWhenItSpeaks();
        laysSheets();
        putsNumbers();
        movesNumbers();
        tellsGases();
        keepsImages();
        imagesHoldAllButSome();
        checksRings();
        counts();
        tellsErrors();
        end();
    }

    private static void speaks() {
        int[][] want = {
            {11, 22, 21, 2},
            {7, 14, 13, 4},
            {21, 42, 45, 8},
            {11, -22, -15, 2},
            {11, 22, 21, -4},
            {11, -24, -25, 2},
            {7, 14, 13, 2},
        };
        FoamHead x = foam(3, 3, 1);
        for (int kind = 0; kind < 7; kind++) {
            x.become(4, kind);
            for (int voice = 0; voice < 4; voice++) {
                due("voice " + voice + " of kind " + kind, x.voice(4, voice, 7), want[kind][voice]);
            }
        }
        due("voice(4, 4, 7)", x.voice(4, 4, 7), BEYOND);
        due("voice(4, -1, 7)", x.voice(4, -1, 7), BEYOND);
        due("voice(9, 0, 7)", x.voice(9, 0, 7), BEYOND);
        due("voice(-1, 0, 7)", x.voice(-1, 0, 7), BEYOND);
    }

    private static void traces() {
        FoamHead x = foam(3, 3, 1);
        dueTrace(x);
        x.voice(4, 0, 7);
        dueTrace(x, 10);
        x.voice(4, 2, 7);
        dueTrace(x, 12, 11, 10);
        x.become(4, 1);
        x.voice(4, 3, 7);
        dueTrace(x, 21, 13, 11, 20, 10);
        x.become(4, 2);
        x.voice(4, 2, 7);
        dueTrace(x, 31, 12, 11, 30, 20, 10);
        x.voice(4, 3, 7);
        dueTrace(x, 21, 13, 11, 30, 20, 10);
        x.become(4, 3);
        x.voice(4, 2, 7);
        dueTrace(x, 40, 12, 41, 11, 10);
        x.become(4, 4);
        x.voice(4, 3, 7);
        dueTrace(x, 50, 13, 10);
        x.become(4, 5);
        x.voice(4, 2, 7);
        dueTrace(x, 61, 40, 12, 60, 41, 11, 10, 41, 11, 10);
        x.voice(4, 9, 7);
        dueTrace(x, 61, 40, 12, 60, 41, 11, 10, 41, 11, 10);
        x.become(4, 6);
        x.voice(4, 1, 7);
        dueTrace(x, 11, 70);
        due("body(-1)", x.body(-1), NONE);
        due("body(2147483647)", x.body(Integer.MAX_VALUE), NONE);
    }

    private static void parts() {
        FoamHead x = foam(1, 4, 1);
        for (int kind = 0; kind < 7; kind++) {
            x.become(2, kind);
            due("voice(2, 3, 7) of kind " + kind, x.voice(2, 3, 7), PARTED);
        }
        due("told(6)", x.told(6), 7);
        x.become(2, 0);
        x.voice(2, 1, 7);
        due("voice(2, 3, 7)", x.voice(2, 3, 7), PARTED);
        dueTrace(x, 11, 10);
        due("voice(2, 2, 7) behind it", x.voice(2, 2, 7), 16);
    }

    private static void wrapsWhenItSpeaks() {
        FoamHead x = foam(3, 3, 1);
        due("gives", x.voice(4, 0, Integer.MAX_VALUE), Integer.MIN_VALUE + 3);
        due("tells, cut", x.voice(4, 3, -7), -2);
        due("tells", x.voice(4, 3, Integer.MIN_VALUE), Integer.MIN_VALUE / 3);
        due("by 2", x.voice(3, 3, 7), 3);
        x.become(4, 3);
        due("drains: half is cut toward 0", x.voice(4, 2, -7), -3);
        x = foam(4, 4, 1);
        due("by 4 - 1", x.voice(4, 3, 10), 3);
        due("by 15 - 3", x.voice(15, 3, 25), 2);
    }

    private static void laysSheets() {
        FoamHead x = foam(2, 2, 1);
        for (int s = 0; s < 4; s++) {
            due("put(" + s + ", 0, 1)", x.put(s, 0, 1), NONE);
        }
        due("sheet(4, 8, 1)", x.sheet(4, 8, 1), BEYOND);
        due("sheet(-1, 8, 1)", x.sheet(-1, 8, 1), BEYOND);
        due("sheet(0, 7, 1)", x.sheet(0, 7, 1), BEYOND);
        due("sheet(0, -8, -1)", x.sheet(0, -8, -1), BEYOND);
        due("sheet(4, 8, -1)", x.sheet(4, 8, -1), BEYOND);
        due("sheet(0, 8, -1)", x.sheet(0, 8, -1), STATE);
        due("sheet(0, 8, 25)", x.sheet(0, 8, 25), BEYOND);
        due("put(0, 0, 1)", x.put(0, 0, 1), NONE);
        due("sheet(0, 8, 24)", x.sheet(0, 8, 24), 1);
        due("put(0, 23, 1)", x.put(0, 23, 1), 1);
        due("put(0, 24, 1)", x.put(0, 24, 1), BEYOND);
        due("put(0, -1, 1)", x.put(0, -1, 1), BEYOND);
        due("sheet(0, 32, 0)", x.sheet(0, 32, 0), 1);
        due("put(0, 0, 1)", x.put(0, 0, 1), BEYOND);
        due("gases(0)", x.gases(0), 0);
        due("sheet(0, 0, -7)", x.sheet(0, 0, -7), 1);
        due("put(0, 0, 1)", x.put(0, 0, 1), NONE);
        due("sheet(0, 0, 99)", x.sheet(0, 0, 99), 1);
        due("gases(0)", x.gases(0), NONE);
        x.sheet(3, 32, 2);
        x.put(3, 0, 9);
        x.put(3, 1, 9);
        x.sheet(3, 32, 2);
        due("gases(3)", x.gases(3), 2);
        due("all 0 again", x.bubbleIs(0, 1) + x.bubbleIs(1, 1), 0);
    }

    private static int putAndRead(FoamHead x, int bits, int v) {
        x.sheet(0, bits, 1);
        due("put", x.put(0, 0, v), 1);
        x.fill(0, 0, 77777);
        return x.gases(0) == 1 ? x.bubbleIs(0, 1) : -1;
    }

    private static void putsNumbers() {
        FoamHead x = foam(1, 1, 1);
        due("8 bits of 127", putAndRead(x, 8, 127), 127);
        due("8 bits of 128", putAndRead(x, 8, 128), -1);
        due("8 bits of 256 + 3", putAndRead(x, 8, 259), 3);
        due("8 bits of -256 + 3", putAndRead(x, 8, -253), 3);
        due("16 bits of 32767", putAndRead(x, 16, 32767), 32767);
        due("16 bits of 32768", putAndRead(x, 16, 32768), -1);
        due("16 bits of 65536 + 300", putAndRead(x, 16, 65836), 300);
        due("32 bits of 99999", putAndRead(x, 32, 99999), 99999);
        due("32 bits of 100000", putAndRead(x, 32, 100000), -1);
        due("32 bits of -1", putAndRead(x, 32, -1), -1);
        due("put(4, 0, 0)", x.put(4, 0, 0), BEYOND);
        due("put(-1, 0, 0)", x.put(-1, 0, 0), BEYOND);
        due("put(1, 99, 0)", x.put(1, 99, 0), NONE);
    }

    private static void dueNumbers(FoamHead x, int sheet, int... want) {
        due("gases(" + sheet + ")", x.gases(sheet), want.length);
        for (int b = 0; b < want.length; b++) {
            due("number " + b + " of " + sheet, x.bubbleIs(b, 1), want[b]);
        }
    }

    private static void movesNumbers() {
        FoamHead x = foam(4, 4, 1);
        x.sheet(0, 16, 5);
        x.sheet(1, 16, 3);
        x.sheet(2, 8, 5);
        for (int i = 0; i < 5; i++) {
            x.put(0, i, i + 1);
        }
        due("move(0, 0, 0, 1, 4)", x.move(0, 0, 0, 1, 4), 4);
        dueNumbers(x, 0, 1, 1, 2, 3, 4);
        due("move(0, 2, 0, 0, 3)", x.move(0, 2, 0, 0, 3), 3);
        dueNumbers(x, 0, 2, 3, 4, 3, 4);
        due("move(0, 1, 1, 0, 3)", x.move(0, 1, 1, 0, 3), 3);
        dueNumbers(x, 1, 3, 4, 3);
        due("move(0, 5, 1, 3, 0)", x.move(0, 5, 1, 3, 0), 0);
        due("move(0, 6, 1, 0, 0)", x.move(0, 6, 1, 0, 0), BEYOND);
        due("move(0, 0, 1, 4, 0)", x.move(0, 0, 1, 4, 0), BEYOND);
        due("move(0, 3, 1, 0, 3)", x.move(0, 3, 1, 0, 3), BEYOND);
        due("move(0, 0, 1, 1, 3)", x.move(0, 0, 1, 1, 3), BEYOND);
        due("move(0, -1, 1, 0, 1)", x.move(0, -1, 1, 0, 1), BEYOND);
        due("move(0, 0, 1, -1, 1)", x.move(0, 0, 1, -1, 1), BEYOND);
        due("move(0, 0, 1, 0, -1)", x.move(0, 0, 1, 0, -1), BEYOND);
        due("move(0, 1, 1, 1, 2147483647)", x.move(0, 1, 1, 1, Integer.MAX_VALUE), BEYOND);
        due("move(0, 9, 2, 0, 1)", x.move(0, 9, 2, 0, 1), KIND);
        due("move(0, 9, 3, 0, 1)", x.move(0, 9, 3, 0, 1), NONE);
        due("move(3, 9, 0, 0, 1)", x.move(3, 9, 0, 0, 1), NONE);
        due("move(3, 9, 4, 0, 1)", x.move(3, 9, 4, 0, 1), BEYOND);
        due("move(-1, 9, 3, 0, 1)", x.move(-1, 9, 3, 0, 1), BEYOND);
        dueNumbers(x, 1, 3, 4, 3);
        dueNumbers(x, 0, 2, 3, 4, 3, 4);
    }

    private static void tellsGases() {
        FoamHead x = foam(2, 2, 9);
        x.sheet(0, 32, 6);
        for (int i = 0; i < 6; i++) {
            x.put(0, i, 10 * i);
        }
        due("gases(0): bubbles end", x.gases(0), 4);
        due("gas of 3", x.bubbleIs(3, 1), 30);
        x.vanish(0);
        due("gases(0): 0 is gone", x.gases(0), 3);
        due("gas of 1", x.bubbleIs(1, 1), 0);
        due("gas of 2", x.bubbleIs(2, 1), 10);
        due("gas of 3", x.bubbleIs(3, 1), 20);
        x.put(0, 0, 5);
        x.put(0, 1, 100000);
        due("gases(0): up to the first that can't be", x.gases(0), 1);
        due("gas of 1", x.bubbleIs(1, 1), 5);
        due("gas of 2", x.bubbleIs(2, 1), 10);
        due("gas of 3", x.bubbleIs(3, 1), 20);
        due("gases(4)", x.gases(4), BEYOND);
        due("gases(-1)", x.gases(-1), BEYOND);
        due("gases(1)", x.gases(1), NONE);
        x = new FoamHead();
        x.sheet(0, 8, 3);
        due("gases(0): no bubbles", x.gases(0), 0);
    }

    private static void keepsImages() {
        FoamHead x = foam(3, 3, 20);
        due("restore()", x.restore(), NONE);
        due("image()", x.image(), 1);
        x.turn(4, 5);
        x.vanish(0);
        x.burst(3, 4);
        x.tick(3);
        x.foam(2, 1, 3);
        due("restore()", x.restore(), 9);
        due("count(1)", x.count(1), 511);
        due("beside(4, 5)", x.beside(4, 5), 1);
        due("all(0)", x.all(0), 180);
        due("all(3)", x.all(3), 0);
        due("all(4)", x.all(4), 0);
        due("all(5)", x.all(5), 0);
        due("count(3)", x.count(3), 0);
        due("count(7)", x.count(7), 1);
        x.vanish(0);
        due("restore() again", x.restore(), 9);
        x.vanish(6);
        due("image()", x.image(), 2);
        x.vanish(0);
        due("restore()", x.restore(), 8);
        due("bubbleIs(6, 0)", x.bubbleIs(6, 0), BEYOND);
        x = new FoamHead();
        due("image()", x.image(), 1);
        x.foam(4, 4, 1);
        due("restore()", x.restore(), 0);
        due("count(0)", x.count(0), 0);
    }

    private static void imagesHoldAllButSome() {
        FoamHead x = foam(1, 2, 20);
        x.feed('7', 1);
        x.text(2);
        x.feed('1' << 8 | '8', 2);
        x.tell(5);
        x.tell(6);
        x.seed(4);
        x.become(1, 3);
        x.fill(1, 1, 44);
        x.image();
        x.untell(2);
        x.text(0);
        x.tell(7);
        x.seed(8);
        x.rule(0, 1);
        x.rule(1, 1);
        x.rule(2, 11);
        x.become(1, 2);
        x.fill(1, 1, 4);
        x.tick(1);
        x.sheet(2, 8, 3);
        x.put(2, 0, 66);
        x.voice(0, 0, 0);
        x.bubbleIs(9, 9);
        due("restore()", x.restore(), 2);
        due("mark", x.bubbleIs(0, 8), 7);
        due("count(4)", x.count(4), 2);
        due("count(5)", x.count(5), 2);
        due("count(7)", x.count(7), 4);
        due("count(3)", x.count(3), 0);
        due("rule(0, 10)", x.rule(0, 10), 10);
        due("rule(1, 5)", x.rule(1, 5), 5);
        due("rule(2, 12)", x.rule(2, 12), 12);
        due("kind", x.bubbleIs(1, 0), 3);
        due("water", x.bubbleIs(1, 2), 44);
        due("untell(0)", x.untell(0), 0);
        due("text(1)", x.text(1), 1);
        due("count(6): the trace stays", x.count(6), 1);
        due("told(1): stays", x.told(1), 1);
        due("gases(2): sheets stay", x.gases(2), 2);
        due("gas", x.bubbleIs(0, 1), 66);
        due("tell(0)", x.tell(0), 3);
        due("check(0): 5 is not 1", x.check(0), 1);
        due("image()", x.image(), 2);
    }

    private static void checksRings() {
        FoamHead x = foam(3, 3, 1);
        due("check(0): all lack", x.check(0), 1);
        tell(x, 1, 3, 16);
        due("check(0)", x.check(0), 0);
        due("count(5)", x.count(5), 0);
        tell(x, 3, 16, 1);
        due("check(0)", x.check(0), 1);
        tell(x, 1, 3);
        due("check(0): one lacks", x.check(0), 3);
        tell(x, 1, 3, 16, 1);
        due("check(0): one too many", x.check(0), 4);
        tell(x, 1, 4, 16);
        due("check(0)", x.check(0), 2);
        tell(x, 1, 3, 16);
        due("check(9)", x.check(9), BEYOND);
        due("count(5)", x.count(5), 0);
        for (int i = 1; i <= 24; i++) {
            due("tell", x.tell(-i), i);
        }
        due("tell(1)", x.tell(1), FULL);
        due("count(5)", x.count(5), 24);
        due("check(4)", x.check(4), 1);
        tell(x, 1, 2, 5, 8, 7, 3);
        due("check(4)", x.check(4), 0);
    }

    private static void counts() {
        FoamHead x = foam(3, 3, 1);
        x.vanish(0);
        x.feed(0, 3);
        x.tell(1);
        x.voice(1, 1, 1);
        x.seed(-9);
        x.rule(0, 0);
        int[] want = {8, 510, 14, 0, 3, 1, 2, -9};
        for (int what = 0; what < want.length; what++) {
            due("count(" + what + ")", x.count(what), want[what]);
        }
        due("count(8)", x.count(8), BEYOND);
        due("count(-1)", x.count(-1), BEYOND);
    }

    private static void tellsErrors() {
        FoamHead x = foam(1, 2, 1);
        for (int k = 1; k <= 6; k++) {
            due("told(" + k + ")", x.told(k), 0);
        }
        x.restore();
        x.turn(0, 1);
        x.turn(0, 1);
        for (int i = 0; i < 25; i++) {
            x.tell(i);
        }
        x.as(0, 1);
        x.voice(0, 3, 1);
        due("told(0)", x.told(0), BEYOND);
        due("told(7)", x.told(7), BEYOND);
        due("told(1)", x.told(1), 2);
        due("told(2)", x.told(2), 1);
        due("told(3)", x.told(3), 2);
        due("told(4)", x.told(4), 1);
        due("told(5)", x.told(5), 1);
        due("told(6)", x.told(6), 1);
        x.text(0);
        x.seed(BEYOND);
        x.count(7);
        due("told(1): neither a fault nor a number", x.told(1), 2);
        x.foam(4, 4, 1);
        due("told(1): stays", x.told(1), 2);
    }
}
