import java.util.List;
import java.util.function.Consumer;
import java.util.function.ToIntFunction;

/**
 * Promises 2 to 42: each call that is refused tells the ERROR that is asked first, counts it, and changes nothing.
 * Of two like objects just one gets the call; then all that can be seen of both must be the same.
 */
public final class RefusedTest extends Checks {
    /** 15 has vanished, 11 has burst into 10; the others never were. */
    private static final int[] NO_BUBBLES = {15, 11, 16, 17, 32, -1, -16, MAX, MIN};
    private static final Consumer<FoamHead> AS_IT_IS = x -> { };

    public static void main(String[] args) {
        twinsAreAlike();
        foams();
        tellingOfBubbles();
        changingBubbles();
        rings();
        walls();
        turnsAndBursts();
        tapes();
        texts();
        rules();
        ticks();
        stands();
        seen();
        voices();
        sheets();
        moves();
        images();
        waiting();
        told();
        end();
    }

    /** Something of all that an object can hold, and an IMAGE that is not like it. */
    private static FoamHead lived() {
        FoamHead x = foam(4, 4, 500);
        due("law", text(x, LAW, "t-s+g%3*n"), 1);
        due("burst", text(x, BURST, "w<2&n>2"), 1);
        due("mark", text(x, MARK, "s*g+w"), 1);
        x.rule(0, 7);
        x.rule(1, 6);
        x.rule(2, 23);
        x.seed(77);
        for (int b = 0; b < 16; b++) {
            x.fill(b, 1, 40 * b);
        }
        due("tick(2)", x.tick(2), 16);
        feed(x, "s+2");
        tell(x, 1, 4, 16, 9);
        x.image();
        feed(x, "2");
        x.check(0);
        tell(x, 1, 4, 16);
        due("turn(5, 6)", x.turn(5, 6), 5);
        due("vanish(15)", x.vanish(15), 15);
        due("burst(10, 11)", x.burst(10, 11), 10);
        x.become(9, 2);
        x.become(12, 5);
        x.rule(0, 8);
        x.voice(9, 2, 5);
        x.sheet(0, 8, 3);
        x.put(0, 0, 5);
        x.put(0, 2, 7);
        x.sheet(1, 16, 24);
        x.put(1, 23, 3000);
        x.sheet(2, 16, 0);
        return x;
    }

    private static void twinsAreAlike() {
        due("twins", Sight.all(lived()), Sight.all(lived()));
        FoamHead x = lived();
        x.put(1, 22, 1);
        due("a change is seen", Sight.all(x).equals(Sight.all(lived())) ? 1 : 0, 0);
    }

    private static void refused(String call, int error, ToIntFunction<FoamHead> act) {
        refused(call, error, AS_IT_IS, act);
    }

    private static void refused(String call, int error, Consumer<FoamHead> ahead, ToIntFunction<FoamHead> act) {
        FoamHead x = lived();
        FoamHead twin = lived();
        ahead.accept(x);
        ahead.accept(twin);
        int[] told = errors(x);
        due(call, act.applyAsInt(x), error);
        int[] then = errors(x);
        for (int k = 1; k <= 6; k++) {
            due(call + ", then told(" + k + ")", then[k], told[k] + (LOW - k == error ? 1 : 0));
        }
        List<Integer> want = Sight.all(twin);
        due("what is seen behind " + call, Sight.all(x), want);
    }

    private static int[] errors(FoamHead x) {
        int[] told = new int[7];
        for (int k = 1; k <= 6; k++) {
            told[k] = x.told(k);
        }
        return told;
    }

    /** The same call for each number that it does not take. */
    private static void refusedEach(String call, int error, int[] numbers, CallOfOne act) {
        refusedEach(call, error, AS_IT_IS, numbers, act);
    }

    private static void refusedEach(String call, int error, Consumer<FoamHead> ahead, int[] numbers, CallOfOne act) {
        for (int v : numbers) {
            refused(call + " of " + v, error, ahead, x -> act.on(x, v));
        }
    }

    private interface CallOfOne {
        int on(FoamHead x, int v);
    }

    private static int[] numbers(int... v) {
        return v;
    }

    private static int[] beyond(int least, int most) {
        return numbers(least - 1, most + 1, MIN, MAX);
    }

    // ---- promise 2

    private static void foams() {
        refusedEach("foam: w", BEYOND, beyond(1, 4), (x, v) -> x.foam(v, 4, 5));
        refusedEach("foam: h", BEYOND, beyond(1, 4), (x, v) -> x.foam(4, v, 5));
        refusedEach("foam: gas", BEYOND, beyond(0, 99999), (x, v) -> x.foam(4, 4, v));
    }

    // ---- promises 3, 4

    private static void tellingOfBubbles() {
        refusedEach("bubbleIs: bubble", BEYOND, NO_BUBBLES, (x, v) -> x.bubbleIs(v, 0));
        refusedEach("bubbleIs: what", BEYOND, beyond(0, 8), (x, v) -> x.bubbleIs(9, v));
        refusedEach("as: bubble", BEYOND, NO_BUBBLES, (x, v) -> x.as(v, 0));
        refusedEach("as: kind", BEYOND, beyond(0, 6), (x, v) -> x.as(9, v));
        refusedEach("as: bubble ahead of KIND", BEYOND, NO_BUBBLES, (x, v) -> x.as(v, 4));
        refusedEach("as: not of that KIND", KIND, numbers(3, 4, 5, 6), (x, v) -> x.as(9, v));
        refusedEach("as: not of that KIND", KIND, numbers(1, 2, 4, 6), (x, v) -> x.as(12, v));
    }

    // ---- promises 5, 6

    private static void changingBubbles() {
        refusedEach("become: bubble", BEYOND, NO_BUBBLES, (x, v) -> x.become(v, 1));
        refusedEach("become: kind", BEYOND, beyond(0, 6), (x, v) -> x.become(9, v));
        refusedEach("fill: bubble", BEYOND, NO_BUBBLES, (x, v) -> x.fill(v, 0, 7));
        refusedEach("fill: what", BEYOND, beyond(0, 1), (x, v) -> x.fill(9, v, 7));
        refusedEach("fill: gas", BEYOND, beyond(0, 99999), (x, v) -> x.fill(9, 0, v));
        refusedEach("fill: water", BEYOND, beyond(0, 99999), (x, v) -> x.fill(9, 1, v));
    }

    // ---- promises 7, 8

    private static void rings() {
        refusedEach("ring: bubble", BEYOND, NO_BUBBLES, (x, v) -> x.ring(v, 0));
        refusedEach("ring: bubble ahead of i", BEYOND, NO_BUBBLES, (x, v) -> x.ring(v, 99));
        refusedEach("ring(0, ..) of 3 SIDES", NONE, numbers(3, 4, 16, 60, MAX), (x, v) -> x.ring(0, v));
        refusedEach("ring(0, ..) below 0", NONE, numbers(-1, -3, MIN), (x, v) -> x.ring(0, v));
        refusedEach("beside: one", BEYOND, NO_BUBBLES, (x, v) -> x.beside(v, 9));
        refusedEach("beside: other", BEYOND, NO_BUBBLES, (x, v) -> x.beside(9, v));
        refusedEach("beside: one and the same", BEYOND, numbers(0, 9, 14), (x, v) -> x.beside(v, v));
        refusedEach("beside: one and the same that is none", BEYOND, NO_BUBBLES, (x, v) -> x.beside(v, v));
    }

    // ---- promises 9, 10, 18

    private static void walls() {
        refusedEach("end: a", BEYOND, NO_BUBBLES, (x, v) -> x.end(v, 9, 0));
        refusedEach("end: b", BEYOND, NO_BUBBLES, (x, v) -> x.end(9, v, 0));
        refusedEach("end: what", BEYOND, beyond(0, 1), (x, v) -> x.end(9, 8, v));
        refusedEach("end: what ahead of no WALL", BEYOND, beyond(0, 1), (x, v) -> x.end(0, 14, v));
        refusedEach("end: no WALL", STATE, numbers(2, 8, 14, 0), (x, v) -> x.end(0, v, 1));
        refused("end(5, 6, 0): a WALL that was TURNED", STATE, x -> x.end(5, 6, 0));
        for (int what = 0; what < 2; what++) {
            int asked = what;
            refusedEach("can " + what + ": a", BEYOND, NO_BUBBLES, (x, v) -> x.can(asked, v, 9));
            refusedEach("can " + what + ": b", BEYOND, NO_BUBBLES, (x, v) -> x.can(asked, 9, v));
            refusedEach("can " + what + ": no WALL", STATE, numbers(2, 8, 14, 0), (x, v) -> x.can(asked, 0, v));
        }
        refusedEach("can: what", BEYOND, beyond(0, 2), (x, v) -> x.can(v, 9, 8));
        refusedEach("can: what ahead of no WALL", BEYOND, beyond(0, 2), (x, v) -> x.can(v, 0, 14));
        refusedEach("can 2: a", BEYOND, NO_BUBBLES, (x, v) -> x.can(2, v, 9));
        refusedEach("can 2: not 3 SIDES", STATE, numbers(1, 5, 8, 9), (x, v) -> x.can(2, v, 0));
        refusedEach("passes: a", BEYOND, NO_BUBBLES, (x, v) -> x.passes(v, 9));
        refusedEach("passes: b", BEYOND, NO_BUBBLES, (x, v) -> x.passes(9, v));
        refusedEach("passes: no WALL", STATE, numbers(2, 8, 14, 0), (x, v) -> x.passes(0, v));
    }

    // ---- promises 11 to 13

    private static void turnsAndBursts() {
        refusedEach("turn: a", BEYOND, NO_BUBBLES, (x, v) -> x.turn(v, 9));
        refusedEach("turn: b", BEYOND, NO_BUBBLES, (x, v) -> x.turn(9, v));
        refusedEach("turn: no WALL", STATE, numbers(0, 2, 8, 14), (x, v) -> x.turn(0, v));
        refusedEach("turn: 3 SIDES", STATE, numbers(1, 4), (x, v) -> x.turn(0, v));
        refusedEach("turn: 3 SIDES of b", STATE, numbers(1, 4), (x, v) -> x.turn(v, 0));
        refusedEach("vanish", BEYOND, NO_BUBBLES, (x, v) -> x.vanish(v));
        refusedEach("vanish: not 3 SIDES", STATE, numbers(1, 5, 8, 9), (x, v) -> x.vanish(v));
        refusedEach("vanish: those beside have 3 SIDES", STATE, x -> {
            x.foam(2, 2, 5);
            x.vanish(0);
        }, numbers(1, 2, 3), (x, v) -> x.vanish(v));
        refusedEach("burst: a", BEYOND, NO_BUBBLES, (x, v) -> x.burst(v, 9));
        refusedEach("burst: b", BEYOND, NO_BUBBLES, (x, v) -> x.burst(9, v));
        refusedEach("burst: no WALL", STATE, numbers(0, 2, 8, 14), (x, v) -> x.burst(0, v));
        refused("burst(1, 4): 0 has 3 SIDES", STATE, x -> x.burst(1, 4));
        refused("burst(4, 1): 0 has 3 SIDES", STATE, x -> x.burst(4, 1));
    }

    // ---- promise 14

    private static void tapes() {
        refusedEach("feed: n", BEYOND, beyond(1, 8), (x, v) -> x.feed(-1L, v));
        refusedEach("feed: n ahead of FULL", BEYOND, x -> fillTape(x, 60), beyond(1, 8), (x, v) -> x.feed(-1L, v));
        for (int n = 1; n <= 8; n++) {
            int portion = n;
            refused("feed of " + n + ": FULL", FULL, x -> fillTape(x, 61 - portion), x -> x.feed(-1L, portion));
            refused("feed of " + n + ": 60 there are", FULL, x -> fillTape(x, 60), x -> x.feed(-1L, portion));
        }
    }

    private static void fillTape(FoamHead x, int held) {
        while (x.count(4) < held) {
            x.feed(x.count(4) % 2 == 0 ? '1' : '+', 1);
        }
    }

    // ---- promises 15, 16

    private static void texts() {
        refusedEach("text: THE TAPE stays", BEYOND, beyond(0, 2), (x, v) -> x.text(v));
        refusedEach("text: an empty TAPE", BEYOND, x -> x.text(MARK), beyond(0, 2), (x, v) -> x.text(v));
        refusedEach("untell", BEYOND, beyond(0, 2), (x, v) -> x.untell(v));
    }

    // ---- promise 17

    private static void rules() {
        refusedEach("rule: what", BEYOND, beyond(0, 2), (x, v) -> x.rule(v, 11));
        refusedEach("rule: RATE", BEYOND, beyond(0, 99), (x, v) -> x.rule(0, v));
        refusedEach("rule: DRYNESS", BEYOND, beyond(0, 999), (x, v) -> x.rule(1, v));
        refusedEach("rule: ODDS", BEYOND, numbers(0, 10, 20, 90, 100, 101, -1, -11, MIN, MAX), (x, v) -> x.rule(2, v));
    }

    // ---- promises 19, 20

    private static void ticks() {
        refusedEach("tick", BEYOND, beyond(1, 60), (x, v) -> x.tick(v));
        Consumer<FoamHead> late = x -> ticks(x, 9950);
        refused("tick(48) at 9952", STATE, late, x -> x.tick(48));
        refused("tick(60) at 9952", STATE, late, x -> x.tick(60));
        refused("tick(61) at 9952: BEYOND is asked first", BEYOND, late, x -> x.tick(61));
    }

    private static void stands() {
        refusedEach("stands: k", BEYOND, beyond(0, 16), (x, v) -> x.stands(v, 5));
        refusedEach("stands: n", BEYOND, beyond(1, 60), (x, v) -> x.stands(16, v));
        refused("stands(0, 60)", NONE, x -> x.stands(0, 60));
        refused("stands(2, 1)", NONE, x -> x.stands(2, 1));
        Consumer<FoamHead> late = x -> ticks(x, 9950);
        refused("stands(0, 48) at 9952", STATE, late, x -> x.stands(0, 48));
        refused("stands(0, 47) at 9952", NONE, late, x -> x.stands(0, 47));
        refused("stands(17, 48) at 9952", BEYOND, late, x -> x.stands(17, 48));
        refused("stands(0, 61) at 9952", BEYOND, late, x -> x.stands(0, 61));
    }

    // ---- promises 22 to 30

    private static void seen() {
        refusedEach("all", BEYOND, beyond(0, 5), (x, v) -> x.all(v));
        refusedEach("pace", BEYOND, NO_BUBBLES, (x, v) -> x.pace(v));
        refusedEach("sides", BEYOND, beyond(0, 60), (x, v) -> x.sides(v));
        refusedEach("around", BEYOND, beyond(0, 60), (x, v) -> x.around(v));
        refusedEach("around", NONE, numbers(0, 1, 2, 59, 60), (x, v) -> x.around(v));
        refusedEach("first", BEYOND, beyond(0, 3), (x, v) -> x.first(v));
        refusedEach("way: one", BEYOND, NO_BUBBLES, (x, v) -> x.way(v, 9));
        refusedEach("way: other", BEYOND, NO_BUBBLES, (x, v) -> x.way(9, v));
        refusedEach("way: one and the same that is none", BEYOND, NO_BUBBLES, (x, v) -> x.way(v, v));
        refusedEach("colour: k", BEYOND, beyond(1, 4), (x, v) -> x.colour(v, 9));
        refusedEach("colour: bubble", BEYOND, NO_BUBBLES, (x, v) -> x.colour(4, v));
        refusedEach("colour: bubble ahead of NONE", BEYOND, NO_BUBBLES, (x, v) -> x.colour(1, v));
        refusedEach("colour: so many don't do", NONE, numbers(1, 2), (x, v) -> x.colour(v, 9));
        refusedEach("apart", BEYOND, beyond(0, 1), (x, v) -> x.apart(v));
        refusedEach("marked", BEYOND, beyond(0, 2), (x, v) -> x.marked(v));
    }

    // ---- promises 31, 32

    private static void voices() {
        for (int voice = 0; voice < 4; voice++) {
            int asked = voice;
            refusedEach("voice " + voice, BEYOND, NO_BUBBLES, (x, v) -> x.voice(v, asked, 5));
        }
        refusedEach("voice: voice", BEYOND, beyond(0, 3), (x, v) -> x.voice(9, v, 5));
        refusedEach("voice: voice ahead of PARTED", BEYOND, beyond(0, 3), (x, v) -> x.voice(0, v, 5));
        refusedEach("voice(0, 3, ..): THE TRACE stays", PARTED, numbers(0, 1, -1, MIN, MAX),
            (x, v) -> x.voice(0, 3, v));
        refusedEach("body", NONE, numbers(-1, 6, 7, 29, 30, MIN, MAX), (x, v) -> x.body(v));
    }

    // ---- promises 33, 34, 36

    private static void sheets() {
        refusedEach("sheet: sheet", BEYOND, beyond(0, 3), (x, v) -> x.sheet(v, 8, 3));
        refusedEach("sheet: sheet that is to be missing", BEYOND, beyond(0, 3), (x, v) -> x.sheet(v, 0, 3));
        refusedEach("sheet: sheet ahead of n", BEYOND, beyond(0, 3), (x, v) -> x.sheet(v, 8, -1));
        int[] noBits = {-1, 1, 7, 9, 15, 17, 24, 31, 33, 64, -8, MIN, MAX};
        refusedEach("sheet: bits", BEYOND, noBits, (x, v) -> x.sheet(0, v, 3));
        refusedEach("sheet: bits ahead of n", BEYOND, noBits, (x, v) -> x.sheet(0, v, -1));
        for (int bits = 8; bits <= 32; bits *= 2) {
            int asked = bits;
            refusedEach("sheet: n below 0", STATE, numbers(-1, -24, MIN), (x, v) -> x.sheet(0, asked, v));
            refusedEach("sheet: n", BEYOND, numbers(25, 26, 99, MAX), (x, v) -> x.sheet(0, asked, v));
        }
        refusedEach("put: sheet", BEYOND, beyond(0, 3), (x, v) -> x.put(v, 0, 1));
        refusedEach("put: missing", NONE, numbers(0, -1, 24, MIN, MAX), (x, v) -> x.put(3, v, 1));
        refusedEach("put: number of 3", BEYOND, numbers(-1, 3, 23, MIN, MAX), (x, v) -> x.put(0, v, 1));
        refusedEach("put: number of 24", BEYOND, numbers(-1, 24, MIN, MAX), (x, v) -> x.put(1, v, 1));
        refusedEach("put: number of none", BEYOND, numbers(-1, 0, 1), (x, v) -> x.put(2, v, 1));
        refusedEach("gases: sheet", BEYOND, beyond(0, 3), (x, v) -> x.gases(v));
        refused("gases(3): missing", NONE, x -> x.gases(3));
    }

    // ---- promise 35

    private static void moves() {
        refusedEach("move: sheet", BEYOND, beyond(0, 3), (x, v) -> x.move(v, 0, 1, 0, 1));
        refusedEach("move: other", BEYOND, beyond(0, 3), (x, v) -> x.move(1, 0, v, 0, 1));
        refusedEach("move: sheet ahead of missing", BEYOND, beyond(0, 3), (x, v) -> x.move(v, 0, 3, 0, 1));
        refusedEach("move: other ahead of missing", BEYOND, beyond(0, 3), (x, v) -> x.move(3, 0, v, 0, 1));
        refused("move: missing", NONE, x -> x.move(3, 0, 1, 0, 1));
        refused("move: other is missing", NONE, x -> x.move(1, 0, 3, 0, 1));
        refused("move: both are missing", NONE, x -> x.move(3, 0, 3, 0, 1));
        refused("move: missing, ahead of places", NONE, x -> x.move(3, -1, 1, -1, -1));
        refused("move: unlike bits", KIND, x -> x.move(0, 0, 1, 0, 1));
        refused("move: unlike bits", KIND, x -> x.move(1, 0, 0, 0, 1));
        refused("move: unlike bits, ahead of places", KIND, x -> x.move(1, -1, 0, 99, -1));
        refusedEach("move: n", BEYOND, numbers(-1, MIN), (x, v) -> x.move(0, 1, 0, 1, v));
        refusedEach("move: n", BEYOND, numbers(3, 24, MAX), (x, v) -> x.move(0, 1, 0, 0, v));
        refusedEach("move: n", BEYOND, numbers(3, 24, MAX), (x, v) -> x.move(0, 0, 0, 1, v));
        refusedEach("move: i", BEYOND, numbers(-1, 3, 24, MIN, MAX), (x, v) -> x.move(0, v, 0, 0, 1));
        refusedEach("move: j", BEYOND, numbers(-1, 3, 24, MIN, MAX), (x, v) -> x.move(0, 0, 0, v, 1));
        refusedEach("move: i, none of them", BEYOND, numbers(-1, 4, MIN, MAX), (x, v) -> x.move(0, v, 0, 0, 0));
        refusedEach("move: j, none of them", BEYOND, numbers(-1, 4, MIN, MAX), (x, v) -> x.move(0, 0, 0, v, 0));
        refused("move: to a row of none", BEYOND, x -> x.move(1, 0, 2, 0, 1));
        refused("move: from a row of none", BEYOND, x -> x.move(2, 0, 1, 0, 1));
    }

    // ---- promise 38

    private static void images() {
        FoamHead x = foam(2, 2, 5);
        due("restore(): there is no IMAGE", x.restore(), NONE);
        due("told(2)", x.told(2), 1);
        due("what is seen", Sight.foam(x), Sight.foam(foam(2, 2, 5)));
        due("restore(): there is none still", x.restore(), NONE);
        due("image()", x.image(), 1);
    }

    // ---- promises 39, 40

    private static void waiting() {
        Consumer<FoamHead> full = x -> {
            while (x.count(5) < 24) {
                x.tell(9);
            }
        };
        refusedEach("tell: FULL", FULL, full, numbers(0, 5, -1, MIN, MAX), (x, v) -> x.tell(v));
        for (int b : NO_BUBBLES) {
            FoamHead x = lived();
            due("check(" + b + ")", x.check(b), BEYOND);
            due("none wait behind check(" + b + ")", x.count(5), 0);
            FoamHead twin = lived();
            twin.check(9);
            due("what is seen behind check(" + b + ")", Sight.all(x), Sight.all(twin));
        }
    }

    // ---- promises 41, 42

    private static void told() {
        refusedEach("count", BEYOND, beyond(0, 7), (x, v) -> x.count(v));
        refusedEach("told: another k is counted, too", BEYOND, beyond(1, 6), (x, v) -> x.told(v));
    }
}
