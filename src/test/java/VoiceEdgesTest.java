/** Terms 5 and 6, promises 31 to 42: a test of its own for each sentence that names an edge. */
public final class VoiceEdgesTest extends Checks {
    public static void main(String[] args) {
        fourVoices();
        voicesWrap();
        quotientsAreCut();
        partedByNothing();
        partedIsAllThatIsAnswered();
        partedLeavesTheTrace();
        refusedLeavesTheTrace();
        traceOfNone();
        traceAsTheyBegan();
        longestTrace();
        sheetsZeroToThree();
        sheetOfNoBitsIsMissing();
        sheetOfFewAndMany();
        sheetBelowNothingIsAskedFirst();
        sheetLaidAnewIsNothing();
        putTheLowestBits();
        putFirstAndLast();
        moveAllAndNone();
        moveAsTheyAllWere();
        moveUpToTheEnd();
        moveFarBeyondTheEnd();
        gasesUpToTheFirstThatCannotBe();
        gasesTillBubblesEnd();
        gasesTillTheSheetEnds();
        gasesOfWhatIsNotGone();
        noImageYet();
        imageInPlaceOfOneAhead();
        imageStays();
        imageOfNoFoam();
        imageOfAll();
        imageLeavesOut();
        twentyFourWait();
        numbersOfAllKindsWait();
        checkOfNone();
        checkOneThatLacks();
        checkOneTooMany();
        checkFirstThatIsNotSo();
        checkFromTheLeastOn();
        checkOfNoBubble();
        countsFromTo();
        countsOfWallsAndBits();
        toldOneToSix();
        end();
    }

    // ---- promise 31

    private static void fourVoices() {
        FoamHead x = foam(3, 3, 5);
        due("voice(4, 0, 7)", x.voice(4, 0, 7), 11);
        due("voice(4, 3, 7)", x.voice(4, 3, 7), 2);
        due("voice(4, -1, 7)", x.voice(4, -1, 7), BEYOND);
        due("voice(4, 4, 7)", x.voice(4, 4, 7), BEYOND);
        due("voice(9, 0, 7)", x.voice(9, 0, 7), BEYOND);
        due("voice(8, 0, 7)", x.voice(8, 0, 7), 15);
    }

    private static void voicesWrap() {
        FoamHead x = foam(3, 3, 5);
        due("gives", x.voice(4, 0, MAX), MIN + 3);
        due("turns", x.voice(4, 1, MAX - 4), -2);
        due("turns", x.voice(4, 1, MIN - 4), 0);
        due("drains", x.voice(4, 2, 1 << 30), MIN + 7);
        due("drains", x.voice(4, 2, (1 << 30) - 4), MAX);
        x.become(4, 1);
        due("HEAVY gives", x.voice(4, 0, MIN), MIN);
        x.become(1, 1);
        due("HEAVY gives: MIN, 1 more, 4 less", x.voice(1, 0, MIN), MAX - 2);
        x.become(4, 2);
        due("MIXED gives", x.voice(4, 0, 1 << 30), (1 << 30) * 3);
        x.become(4, 3);
        due("THICK turns", x.voice(4, 1, (1 << 30) - 4), MIN);
        x.become(4, 5);
        due("CREAM turns", x.voice(4, 1, MAX), 0 - 2 * (MIN + 4));
    }

    private static void quotientsAreCut() {
        FoamHead x = foam(3, 3, 5);
        due("tells: 8 by 3", x.voice(4, 3, 8), 2);
        due("tells: -8 by 3", x.voice(4, 3, -8), -2);
        due("tells: 2 by 3", x.voice(4, 3, 2), 0);
        due("tells: -2 by 3", x.voice(4, 3, -2), 0);
        due("tells: by 1", x.voice(1, 3, MIN), MIN);
        due("tells: MIN by 6", x.voice(8, 3, MIN), MIN / 6);
        x.become(4, 3);
        due("THICK drains: 7 by 2 and 4, twice, turned, less 1", x.voice(4, 2, 7), -15);
        due("THICK drains: -7 by 2", x.voice(4, 2, -7), -3);
        due("THICK drains: -1 by 2", x.voice(4, 2, -1), -9);
    }

    /** Where n and r are the same: 0 of all, and each of a FOAM that is 1 wide. */
    private static void partedByNothing() {
        for (int kind = 0; kind < 7; kind++) {
            FoamHead x = foam(1, 4, 5);
            for (int b = 0; b < 4; b++) {
                x.become(b, kind);
                due("voice(" + b + ", 3, 7) of kind " + kind, x.voice(b, 3, 7), PARTED);
                due("voice(" + b + ", 3, 0) of kind " + kind, x.voice(b, 3, 0), PARTED);
                due("told(6)", x.told(6), 2 * b + 2);
                for (int voice = 0; voice < 3; voice++) {
                    due("voice " + voice + " is not", x.voice(b, voice, 7) == PARTED ? 1 : 0, 0);
                }
            }
            x = foam(2, 2, 5);
            due("voice(0, 3, 7)", x.voice(0, 3, 7), PARTED);
            due("voice(1, 3, 7): by 1", x.voice(1, 3, 7), 7);
            due("voice(2, 3, 7): by 1", x.voice(2, 3, 7), 7);
        }
    }

    /** HEAVY and FAT work on with what tells answers; nothing of that is seen. */
    private static void partedIsAllThatIsAnswered() {
        FoamHead x = foam(2, 2, 5);
        for (int kind : new int[] {1, 2, 4}) {
            x.become(0, kind);
            for (int v : new int[] {0, 1, -1, 99, MIN, MAX}) {
                due("voice(0, 3, " + v + ") of kind " + kind, x.voice(0, 3, v), PARTED);
            }
        }
        due("told(6)", x.told(6), 18);
        x.become(0, 0);
        due("gives behind it", x.voice(0, 0, 7), 7);
        due("told(6)", x.told(6), 18);
    }

    private static void partedLeavesTheTrace() {
        FoamHead x = foam(2, 2, 5);
        x.voice(0, 2, 7);
        dueTrace(x, 12, 11, 10);
        due("voice(0, 3, 7)", x.voice(0, 3, 7), PARTED);
        dueTrace(x, 12, 11, 10);
        x = foam(2, 2, 5);
        due("voice(0, 3, 7)", x.voice(0, 3, 7), PARTED);
        dueTrace(x);
    }

    private static void refusedLeavesTheTrace() {
        FoamHead x = foam(2, 2, 5);
        x.voice(0, 1, 7);
        x.voice(0, 4, 7);
        x.voice(4, 0, 7);
        dueTrace(x, 11, 10);
    }

    // ---- promise 32

    private static void traceOfNone() {
        FoamHead x = foam(2, 2, 5);
        for (int i : new int[] {0, -1, 1, 29, 30, MIN, MAX}) {
            due("body(" + i + ")", x.body(i), NONE);
        }
        due("told(2)", x.told(2), 7);
        x.voice(0, 0, 7);
        due("body(0)", x.body(0), 10);
        due("body(1)", x.body(1), NONE);
        due("body(-1)", x.body(-1), NONE);
        due("body(29)", x.body(29), NONE);
        due("body(30)", x.body(30), NONE);
    }

    private static void traceAsTheyBegan() {
        FoamHead x = foam(3, 3, 5);
        x.become(4, 1);
        x.voice(4, 3, 7);
        dueTrace(x, 21, 13, 11, 20, 10);
        x.become(4, 4);
        x.voice(4, 3, 7);
        dueTrace(x, 50, 13, 10);
        x.become(4, 6);
        x.voice(4, 2, 7);
        dueTrace(x, 12, 11, 70);
        x.voice(4, 0, 7);
        dueTrace(x, 70);
        x.foam(2, 2, 5);
        dueTrace(x, 70);
    }

    /** No VOICE has 30 BODIES; this one has the most. */
    private static void longestTrace() {
        FoamHead x = foam(3, 3, 5);
        x.become(4, 5);
        due("voice(4, 2, 7)", x.voice(4, 2, 7), -25);
        dueTrace(x, 61, 40, 12, 60, 41, 11, 10, 41, 11, 10);
    }

    // ---- promise 33

    private static void sheetsZeroToThree() {
        FoamHead x = foam(1, 1, 5);
        for (int s = 0; s < 4; s++) {
            due("gases(" + s + "): missing at first", x.gases(s), NONE);
            due("sheet(" + s + ", 8, 1)", x.sheet(s, 8, 1), 1);
            due("gases(" + s + ")", x.gases(s), 1);
        }
        due("sheet(-1, 8, 1)", x.sheet(-1, 8, 1), BEYOND);
        due("sheet(4, 8, 1)", x.sheet(4, 8, 1), BEYOND);
        due("sheet(4, 0, 1)", x.sheet(4, 0, 1), BEYOND);
    }

    private static void sheetOfNoBitsIsMissing() {
        FoamHead x = foam(1, 1, 5);
        for (int n : new int[] {0, 1, 24, 25, -1, MIN, MAX}) {
            due("sheet(1, 8, 3)", x.sheet(1, 8, 3), 1);
            due("sheet(1, 0, " + n + ")", x.sheet(1, 0, n), 1);
            due("put(1, 0, 1)", x.put(1, 0, 1), NONE);
        }
        due("told(1)", x.told(1), 0);
        due("told(3)", x.told(3), 0);
    }

    private static void sheetOfFewAndMany() {
        FoamHead x = foam(1, 1, 5);
        for (int bits = 8; bits <= 32; bits *= 2) {
            for (int n = 0; n <= 24; n++) {
                due("sheet(2, " + bits + ", " + n + ")", x.sheet(2, bits, n), 1);
                due("put(2, " + n + ", 1)", x.put(2, n, 1), BEYOND);
                due("put(2, " + (n - 1) + ", 1)", x.put(2, n - 1, 1), n == 0 ? BEYOND : 1);
            }
            due("sheet(2, " + bits + ", 25)", x.sheet(2, bits, 25), BEYOND);
            due("put(2, 23, 1): it is as it was", x.put(2, 23, 1), 1);
        }
    }

    private static void sheetBelowNothingIsAskedFirst() {
        FoamHead x = foam(1, 1, 5);
        due("sheet(0, 8, -1)", x.sheet(0, 8, -1), STATE);
        due("sheet(0, 8, MIN)", x.sheet(0, 8, MIN), STATE);
        due("sheet(0, 8, MAX)", x.sheet(0, 8, MAX), BEYOND);
        due("sheet(0, 9, -1): bits ahead of n", x.sheet(0, 9, -1), BEYOND);
        due("sheet(4, 8, -1): which one ahead of n", x.sheet(4, 8, -1), BEYOND);
        due("put(0, 0, 1): missing still", x.put(0, 0, 1), NONE);
        due("told(1)", x.told(1), 3);
        due("told(3)", x.told(3), 2);
    }

    private static void sheetLaidAnewIsNothing() {
        FoamHead x = foam(3, 1, 5);
        x.sheet(0, 8, 3);
        for (int i = 0; i < 3; i++) {
            x.put(0, i, 9);
        }
        x.sheet(0, 8, 1);
        x.sheet(0, 16, 3);
        due("gases(0)", x.gases(0), 3);
        due("all 0", x.all(0), 0);
        x.put(0, 2, 9);
        x.sheet(0, 0, 0);
        x.sheet(0, 8, 3);
        x.gases(0);
        due("all 0", x.all(0), 0);
    }

    // ---- promise 34

    private static void duePut(int bits, int v, int want) {
        FoamHead x = foam(1, 1, 5);
        x.sheet(0, bits, 1);
        due("put(0, 0, " + v + ")", x.put(0, 0, v), 1);
        due("gases(0) of " + v + " of " + bits, x.gases(0), want < 0 ? 0 : 1);
        due("gas of " + v + " of " + bits, x.bubbleIs(0, 1), want < 0 ? 5 : want);
    }

    private static void putTheLowestBits() {
        duePut(8, 0, 0);
        duePut(8, 127, 127);
        duePut(8, 128, -1);
        duePut(8, 255, -1);
        duePut(8, 256, 0);
        duePut(8, 256 + 127, 127);
        duePut(8, -1, -1);
        duePut(8, -128, -1);
        duePut(8, -129, 127);
        duePut(8, MIN, 0);
        duePut(8, MAX, -1);
        duePut(16, 255, 255);
        duePut(16, 32767, 32767);
        duePut(16, 32768, -1);
        duePut(16, 65535, -1);
        duePut(16, 65536, 0);
        duePut(16, -32769, 32767);
        duePut(16, 99999, -1);
        duePut(16, 65536 + 300, 300);
        duePut(16, MIN, 0);
        duePut(32, 65536, 65536);
        duePut(32, 99999, 99999);
        duePut(32, 100000, -1);
        duePut(32, -1, -1);
        duePut(32, MIN, -1);
        duePut(32, MAX, -1);
    }

    private static void putFirstAndLast() {
        FoamHead x = foam(4, 1, 5);
        x.sheet(3, 16, 4);
        due("put(3, -1, 7)", x.put(3, -1, 7), BEYOND);
        due("put(3, 0, 7)", x.put(3, 0, 7), 1);
        due("put(3, 3, 8)", x.put(3, 3, 8), 1);
        due("put(3, 4, 9)", x.put(3, 4, 9), BEYOND);
        due("gases(3)", x.gases(3), 4);
        due("gas of 0", x.bubbleIs(0, 1), 7);
        due("gas of 1 and 2", x.bubbleIs(1, 1) + x.bubbleIs(2, 1), 0);
        due("gas of 3", x.bubbleIs(3, 1), 8);
        due("put(-1, 0, 7)", x.put(-1, 0, 7), BEYOND);
        due("put(4, 0, 7)", x.put(4, 0, 7), BEYOND);
        due("put(0, -1, 7): missing ahead of which one", x.put(0, -1, 7), NONE);
    }

    // ---- promise 35

    /** A SHEET of 1, 2 .. n. */
    private static FoamHead counted(int sheet, int bits, int n) {
        FoamHead x = foam(4, 4, 5);
        x.sheet(sheet, bits, n);
        for (int i = 0; i < n; i++) {
            x.put(sheet, i, i + 1);
        }
        return x;
    }

    private static void dueNumbers(FoamHead x, int sheet, int... want) {
        due("gases(" + sheet + ")", x.gases(sheet), want.length);
        for (int b = 0; b < want.length; b++) {
            due("number " + b + " of " + sheet, x.bubbleIs(b, 1), want[b]);
        }
    }

    private static void moveAllAndNone() {
        for (int bits = 8; bits <= 32; bits *= 2) {
            FoamHead x = counted(0, bits, 4);
            x.sheet(3, bits, 4);
            due("move: none", x.move(0, 0, 3, 0, 0), 0);
            dueNumbers(x, 3, 0, 0, 0, 0);
            due("move: all", x.move(0, 0, 3, 0, 4), 4);
            dueNumbers(x, 3, 1, 2, 3, 4);
            dueNumbers(x, 0, 1, 2, 3, 4);
            due("move: to itself", x.move(0, 0, 0, 0, 4), 4);
            dueNumbers(x, 0, 1, 2, 3, 4);
        }
    }

    private static void moveAsTheyAllWere() {
        FoamHead x = counted(0, 16, 6);
        due("move: up", x.move(0, 0, 0, 2, 4), 4);
        dueNumbers(x, 0, 1, 2, 1, 2, 3, 4);
        x = counted(0, 16, 6);
        due("move: down", x.move(0, 2, 0, 0, 4), 4);
        dueNumbers(x, 0, 3, 4, 5, 6, 5, 6);
        x = counted(0, 16, 6);
        due("move: up by one", x.move(0, 0, 0, 1, 5), 5);
        dueNumbers(x, 0, 1, 1, 2, 3, 4, 5);
    }

    private static void moveUpToTheEnd() {
        FoamHead x = counted(0, 8, 5);
        x.sheet(1, 8, 3);
        due("move: the last", x.move(0, 4, 1, 2, 1), 1);
        dueNumbers(x, 1, 0, 0, 5);
        due("move: one behind the last", x.move(0, 5, 1, 2, 1), BEYOND);
        due("move: to one behind the last", x.move(0, 4, 1, 3, 1), BEYOND);
        due("move: none from behind the last", x.move(0, 5, 1, 3, 0), 0);
        due("move: none from further on", x.move(0, 6, 1, 3, 0), BEYOND);
        due("move: none to further on", x.move(0, 5, 1, 4, 0), BEYOND);
        due("move: three", x.move(0, 2, 1, 0, 3), 3);
        dueNumbers(x, 1, 3, 4, 5);
        due("move: four of three", x.move(0, 1, 1, 0, 4), BEYOND);
        due("move: one too many", x.move(0, 3, 1, 0, 3), BEYOND);
        dueNumbers(x, 1, 3, 4, 5);
    }

    private static void moveFarBeyondTheEnd() {
        FoamHead x = counted(0, 32, 5);
        due("move: n MAX", x.move(0, 1, 0, 0, MAX), BEYOND);
        due("move: i MAX", x.move(0, MAX, 0, 0, 1), BEYOND);
        due("move: i and n MAX", x.move(0, MAX, 0, 0, MAX), BEYOND);
        due("move: j MAX", x.move(0, 0, 0, MAX, 1), BEYOND);
        due("move: j and n MAX", x.move(0, 0, 0, MAX, MAX), BEYOND);
        due("move: n MIN", x.move(0, 1, 0, 0, MIN), BEYOND);
        due("move: i MIN", x.move(0, MIN, 0, 0, 1), BEYOND);
        due("move: j MIN", x.move(0, 0, 0, MIN, 1), BEYOND);
        due("move: n -1", x.move(0, 1, 0, 1, -1), BEYOND);
        due("move: i -1", x.move(0, -1, 0, 0, 1), BEYOND);
        due("move: j -1", x.move(0, 0, 0, -1, 1), BEYOND);
        due("told(1)", x.told(1), 11);
        dueNumbers(x, 0, 1, 2, 3, 4, 5);
    }

    // ---- promise 36

    private static void gasesUpToTheFirstThatCannotBe() {
        FoamHead x = foam(4, 1, 5);
        x.sheet(0, 32, 4);
        x.put(0, 0, 100000);
        due("gases(0): the first is too many", x.gases(0), 0);
        due("all(0)", x.all(0), 20);
        x.put(0, 0, 99999);
        x.put(0, 1, 0);
        x.put(0, 2, -1);
        x.put(0, 3, 9);
        due("gases(0): the third is too few", x.gases(0), 2);
        due("gas of 0", x.bubbleIs(0, 1), 99999);
        due("gas of 1", x.bubbleIs(1, 1), 0);
        due("gas of 2", x.bubbleIs(2, 1), 5);
        due("gas of 3: what stands behind it is not told", x.bubbleIs(3, 1), 5);
        due("no ERRORS", x.told(1) + x.told(2), 0);
    }

    private static void gasesTillBubblesEnd() {
        FoamHead x = foam(2, 1, 5);
        x.sheet(0, 8, 24);
        x.put(0, 2, -1);
        due("gases(0): the third is asked of none", x.gases(0), 2);
        x = new FoamHead();
        x.sheet(0, 8, 24);
        due("gases(0) of no BUBBLES", x.gases(0), 0);
    }

    private static void gasesTillTheSheetEnds() {
        FoamHead x = foam(4, 4, 5);
        x.sheet(0, 8, 0);
        due("gases(0) of none", x.gases(0), 0);
        due("all(0)", x.all(0), 80);
        x.sheet(0, 8, 3);
        due("gases(0) of three", x.gases(0), 3);
        due("all(0)", x.all(0), 65);
        due("gases(-1)", x.gases(-1), BEYOND);
        due("gases(4)", x.gases(4), BEYOND);
        due("gases(1)", x.gases(1), NONE);
    }

    private static void gasesOfWhatIsNotGone() {
        FoamHead x = counted(0, 8, 16);
        due("vanish(0)", x.vanish(0), 15);
        due("burst(6, 5)", x.burst(6, 5), 5);
        due("gases(0)", x.gases(0), 14);
        int n = 0;
        for (int b = 0; b < 16; b++) {
            if (b != 0 && b != 6) {
                n++;
                due("gas of " + b, x.bubbleIs(b, 1), n);
            }
        }
        due("all(0)", x.all(0), 105);
    }

    // ---- promises 37, 38

    private static void noImageYet() {
        FoamHead x = foam(2, 2, 5);
        due("restore()", x.restore(), NONE);
        due("told(2)", x.told(2), 1);
        due("count(0)", x.count(0), 4);
        due("image()", x.image(), 1);
        due("restore()", x.restore(), 4);
    }

    private static void imageInPlaceOfOneAhead() {
        FoamHead x = foam(2, 2, 5);
        for (int i = 1; i <= 20; i++) {
            due("foam(2, 2, " + i + ")", x.foam(2, 2, i), 4);
            due("image()", x.image(), i);
        }
        x.foam(4, 4, 5);
        due("restore()", x.restore(), 4);
        due("gas", x.bubbleIs(0, 1), 20);
    }

    private static void imageStays() {
        FoamHead x = foam(3, 3, 5);
        x.image();
        for (int i = 0; i < 3; i++) {
            due("vanish(0)", x.vanish(0), 8);
            x.turn(4, 5);
            x.fill(4, 0, 9);
            due("restore()", x.restore(), 9);
            dueRing(x, 4, 1, 2, 5, 8, 7, 3);
            due("gas of 4", x.bubbleIs(4, 1), 5);
        }
        due("image(): restore() counts as none", x.image(), 2);
    }

    private static void imageOfNoFoam() {
        FoamHead x = new FoamHead();
        due("image()", x.image(), 1);
        x.foam(4, 4, 5);
        due("restore()", x.restore(), 0);
        due("count(1)", x.count(1), 0);
        due("bubbleIs(0, 0)", x.bubbleIs(0, 0), BEYOND);
    }

    private static FoamHead lived() {
        FoamHead x = foam(4, 4, 500);
        due("law", text(x, LAW, "t-s"), 1);
        due("mark", text(x, MARK, "w*k+r"), 1);
        x.rule(0, 3);
        x.rule(1, 4);
        x.rule(2, 23);
        x.seed(5);
        for (int b = 0; b < 16; b++) {
            x.fill(b, 1, 50 + b);
            x.become(b, b % 7);
        }
        due("tick(3)", x.tick(3), 16);
        due("turn(5, 6)", x.turn(5, 6), 5);
        due("vanish(15)", x.vanish(15), 15);
        due("burst(9, 10)", x.burst(9, 10), 9);
        for (int what = 2; what < 6; what++) {
            due("all(" + what + ") is not 0", x.all(what) > 0 ? 1 : 0, 1);
        }
        feed(x, "g-1");
        tell(x, 1, 4, 16);
        return x;
    }

    private static void imageOfAll() {
        FoamHead x = lived();
        x.image();
        x.untell(LAW);
        x.text(BURST);
        x.untell(MARK);
        x.check(0);
        tell(x, 8, 9);
        x.rule(0, 9);
        x.rule(1, 9);
        x.rule(2, 99);
        x.seed(99);
        x.foam(2, 2, 7);
        x.fill(1, 1, 77);
        feed(x, "1+2+3");
        for (int what = 0; what < 6; what++) {
            due("all(" + what + ") is not as it was", x.all(what) == lived().all(what) ? 1 : 0, 0);
        }
        due("restore()", x.restore(), 14);
        due("what is seen", Sight.image(x), Sight.image(lived()));
    }

    private static void imageLeavesOut() {
        FoamHead x = foam(2, 2, 5);
        x.sheet(0, 8, 2);
        x.voice(1, 0, 5);
        x.image();
        x.sheet(0, 16, 3);
        x.put(0, 0, 300);
        x.sheet(1, 8, 1);
        x.voice(1, 2, 5);
        x.bubbleIs(9, 0);
        x.restore();
        dueTrace(x, 12, 11, 10);
        due("told(1)", x.told(1), 1);
        due("gases(0)", x.gases(0), 3);
        due("gas of 0", x.bubbleIs(0, 1), 300);
        due("gases(1)", x.gases(1), 1);
        due("image()", x.image(), 2);
    }

    // ---- promise 39

    private static void twentyFourWait() {
        FoamHead x = foam(2, 2, 5);
        for (int i = 1; i <= 24; i++) {
            due("tell", x.tell(i), i);
        }
        due("tell: 24 wait", x.tell(25), FULL);
        due("tell: 24 wait", x.tell(25), FULL);
        due("count(5)", x.count(5), 24);
        due("told(4)", x.told(4), 2);
        due("check(0): 3 is not 16", x.check(0), 3);
        due("tell", x.tell(25), 1);
    }

    private static void numbersOfAllKindsWait() {
        FoamHead x = foam(2, 2, 5);
        for (int v : new int[] {MIN, MAX, -1, 0, 99, BEYOND}) {
            due("tell(" + v + ")", x.tell(v), 1);
            due("check(0)", x.check(0), 1);
        }
    }

    // ---- promise 40

    private static void checkOfNone() {
        FoamHead x = foam(2, 2, 5);
        due("check(0): the first lacks", x.check(0), 1);
        due("count(5)", x.count(5), 0);
    }

    private static void checkOneThatLacks() {
        FoamHead x = foam(2, 2, 5);
        dueRing(x, 0, 1, 2, 16);
        tell(x, 1);
        due("check(0)", x.check(0), 2);
        tell(x, 1, 2);
        due("check(0)", x.check(0), 3);
        tell(x, 1, 2, 16);
        due("check(0)", x.check(0), 0);
        due("count(5): none wait then", x.count(5), 0);
        due("check(0)", x.check(0), 1);
    }

    private static void checkOneTooMany() {
        FoamHead x = foam(2, 2, 5);
        tell(x, 1, 2, 16, 1);
        due("check(0)", x.check(0), 4);
        tell(x, 1, 2, 16, 1, 2, 16);
        due("check(0)", x.check(0), 4);
        x = foam(1, 1, 5);
        tell(x, 16);
        due("check(0)", x.check(0), 0);
        tell(x, 16, 16);
        due("check(0)", x.check(0), 2);
    }

    private static void checkFirstThatIsNotSo() {
        FoamHead x = foam(2, 2, 5);
        tell(x, 2, 2, 16);
        due("check(0)", x.check(0), 1);
        tell(x, 1, 3, 15);
        due("check(0)", x.check(0), 2);
        tell(x, 1, 2, 15);
        due("check(0)", x.check(0), 3);
        tell(x, 1, 2, 15, 16);
        due("check(0)", x.check(0), 3);
    }

    private static void checkFromTheLeastOn() {
        FoamHead x = foam(3, 3, 5);
        tell(x, 1, 2, 5, 8, 7, 3);
        due("check(4)", x.check(4), 0);
        tell(x, 2, 5, 8, 7, 3, 1);
        due("check(4): goes round, but not from the least on", x.check(4), 1);
        tell(x, 1, 3, 7, 8, 5, 2);
        due("check(4): the other way round", x.check(4), 2);
    }

    private static void checkOfNoBubble() {
        for (int b : new int[] {4, 16, -1, MIN, MAX}) {
            FoamHead x = foam(2, 2, 5);
            tell(x, 1, 2);
            due("check(" + b + ")", x.check(b), BEYOND);
            due("count(5): none wait then, too", x.count(5), 0);
            tell(x, 1, 2, 16);
            due("check(0)", x.check(0), 0);
        }
    }

    // ---- promise 41

    private static void countsFromTo() {
        FoamHead x = foam(2, 2, 5);
        due("count(-1)", x.count(-1), BEYOND);
        due("count(8)", x.count(8), BEYOND);
        due("count(0)", x.count(0), 4);
        x.seed(BEYOND);
        due("count(7)", x.count(7), BEYOND);
        due("told(1): z is a number", x.told(1), 2);
    }

    private static void countsOfWallsAndBits() {
        int[][] walls = {{0, 1, 2, 3}, {1, 5, 9, 13}, {2, 9, 16, 23}, {3, 13, 23, 33}};
        for (int w = 1; w <= 4; w++) {
            for (int h = 1; h <= 4; h++) {
                due("walls of " + w + " by " + h, foam(w, h, 5).count(2), walls[w - 1][h - 1]);
            }
        }
        FoamHead x = foam(4, 4, 5);
        due("vanish(15)", x.vanish(15), 15);
        due("count(1)", x.count(1), 32767);
        due("count(2)", x.count(2), 31);
        due("count(0)", x.count(0), 15);
    }

    // ---- promise 42

    private static void toldOneToSix() {
        FoamHead x = foam(1, 2, 5);
        due("told(0)", x.told(0), BEYOND);
        due("told(1)", x.told(1), 1);
        due("told(7)", x.told(7), BEYOND);
        due("told(-1)", x.told(-1), BEYOND);
        due("told(LOW - 1)", x.told(BEYOND), BEYOND);
        due("told(1): another k is counted, too", x.told(1), 4);
        x.restore();
        x.turn(0, 1);
        x.turn(0, 1);
        for (int i = 0; i < 27; i++) {
            x.tell(i);
        }
        for (int i = 0; i < 4; i++) {
            x.as(0, 5);
        }
        for (int i = 0; i < 5; i++) {
            x.voice(0, 3, 1);
        }
        int[] want = {4, 1, 2, 3, 4, 5};
        for (int k = 1; k <= 6; k++) {
            due("told(" + k + ")", x.told(k), want[k - 1]);
        }
        x.foam(1, 2, 5);
        for (int k = 1; k <= 6; k++) {
            due("told(" + k + ") behind foam()", x.told(k), want[k - 1]);
        }
    }
}
