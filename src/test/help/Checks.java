import java.util.List;

/** What the tests share: the ERRORS, how a wrong answer is told, foams and texts to begin with. */
abstract class Checks {
    static final int LOW = -1000000;
    static final int BEYOND = LOW - 1;
    static final int NONE = LOW - 2;
    static final int STATE = LOW - 3;
    static final int FULL = LOW - 4;
    static final int KIND = LOW - 5;
    static final int PARTED = LOW - 6;
    static final int GLASS = 16;
    static final int LAW = 0;
    static final int BURST = 1;
    static final int MARK = 2;
    static final int MIN = Integer.MIN_VALUE;
    static final int MAX = Integer.MAX_VALUE;
    private static final int SHOWN = 40;
    private static int wrong = 0;

    static void due(String call, long got, long want) {
        if (got != want) {
            wrong(call + " answered " + got + ", due is " + want);
        }
    }

    static void due(String what, List<Integer> got, List<Integer> want) {
        int same = 0;
        while (same < got.size() && same < want.size() && got.get(same).equals(want.get(same))) {
            same++;
        }
        if (!got.equals(want)) {
            wrong(what + " is not as due from number " + same + " on: " + from(got, same) + ", due is " + from(want, same));
        }
    }

    private static List<Integer> from(List<Integer> row, int first) {
        return row.subList(first, Math.min(row.size(), first + 10));
    }

    static void wrong(String what) {
        wrong++;
        if (wrong <= SHOWN) {
            System.out.println(what);
        }
    }

    static void end() {
        if (wrong != 0) {
            System.out.println(wrong + " wrong");
            System.exit(1);
        }
    }

    static FoamHead foam(int w, int h, int gas) {
        FoamHead x = new FoamHead();
        due("foam(" + w + ", " + h + ", " + gas + ")", x.foam(w, h, gas), w * h);
        return x;
    }

    /** No gas goes, no wall bursts: what is left of a TICK is water and step 4. */
    static FoamHead stillFoam(int w, int h, int gas) {
        FoamHead x = foam(w, h, gas);
        x.rule(0, 0);
        due("text 0", text(x, BURST, "0"), 1);
        return x;
    }

    /** The same bytes come in other portions each time, so that all portions are tried. */
    private static int portion = 0;

    static void feed(FoamHead x, String text) {
        int held = x.count(4);
        for (int i = 0; i < text.length();) {
            portion = portion % 8 + 1;
            int n = Math.min(portion, text.length() - i);
            long word = -1L;
            for (int j = n - 1; j >= 0; j--) {
                word = word << 8 | text.charAt(i + j);
            }
            i += n;
            due("feed", x.feed(word, n), held + i);
        }
    }

    /** What is on THE TAPE already stands ahead of the text. */
    static int text(FoamHead x, int use, String text) {
        feed(x, text);
        int answer = x.text(use);
        due("count(4) behind " + text, x.count(4), 0);
        return answer;
    }

    static void dueRing(FoamHead x, int bubble, int... want) {
        for (int i = 0; i < want.length; i++) {
            due("ring(" + bubble + ", " + i + ")", x.ring(bubble, i), want[i]);
        }
        due("ring(" + bubble + ", " + want.length + ")", x.ring(bubble, want.length), NONE);
        due("bubbleIs(" + bubble + ", 4)", x.bubbleIs(bubble, 4), want.length);
    }

    static void dueTrace(FoamHead x, int... want) {
        due("count(6)", x.count(6), want.length);
        for (int i = 0; i < want.length; i++) {
            due("body(" + i + ")", x.body(i), want[i]);
        }
        due("body(" + want.length + ")", x.body(want.length), NONE);
    }

    static void tell(FoamHead x, int... numbers) {
        int waited = x.count(5);
        for (int i = 0; i < numbers.length; i++) {
            due("tell(" + numbers[i] + ")", x.tell(numbers[i]), waited + i + 1);
        }
    }

    /** TICKS in portions that tick() takes. */
    static void ticks(FoamHead x, int n) {
        for (int left = n; left > 0; left -= 60) {
            due("tick", x.tick(Math.min(60, left)) > LOW ? 1 : 0, 1);
        }
    }
}
