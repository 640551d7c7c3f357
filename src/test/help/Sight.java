import java.util.ArrayList;
import java.util.List;

/** All that calls can show of an object, as rows of numbers; what is asked last uses the object up. */
final class Sight {
    private Sight() {
    }

    /** So that two objects that show the same here hold the same. */
    static List<Integer> all(FoamHead x) {
        List<Integer> row = trace(x);
        row.addAll(image(x));
        row.addAll(sheets(x));
        row.add(x.restore());
        row.addAll(image(x));
        row.add(x.image());
        return row;
    }

    /** What an IMAGE keeps. */
    static List<Integer> image(FoamHead x) {
        List<Integer> row = foam(x);
        row.add(x.count(4));
        row.add(x.count(5));
        row.add(x.check(Integer.numberOfTrailingZeros(x.count(1))));
        x.tick(1);
        row.addAll(foam(x));
        row.add(x.text(Checks.MARK));
        row.addAll(foam(x));
        row.add(x.rule(0, 0));
        row.add(x.rule(1, 0));
        row.add(x.rule(2, 1));
        for (int use = 0; use < 3; use++) {
            row.add(x.untell(use));
        }
        return row;
    }

    static List<Integer> foam(FoamHead x) {
        List<Integer> row = new ArrayList<>();
        for (int what : new int[] {0, 1, 2, 3, 7}) {
            row.add(x.count(what));
        }
        for (int what = 0; what < 6; what++) {
            row.add(x.all(what));
        }
        for (int b = 0; b < 16; b++) {
            if ((x.count(1) >>> b & 1) == 1) {
                bubble(x, b, row);
            }
        }
        return row;
    }

    private static void bubble(FoamHead x, int b, List<Integer> row) {
        for (int what = 0; what <= 8; what++) {
            row.add(x.bubbleIs(b, what));
        }
        for (int other : ring(x, b)) {
            row.add(other);
            if (other != Checks.GLASS) {
                row.add(x.passes(b, other));
            }
        }
    }

    static List<Integer> ring(FoamHead x, int b) {
        List<Integer> ring = new ArrayList<>();
        int sides = x.bubbleIs(b, 4);
        for (int i = 0; i < sides; i++) {
            ring.add(x.ring(b, i));
        }
        return ring;
    }

    static List<Integer> trace(FoamHead x) {
        List<Integer> row = new ArrayList<>();
        int n = x.count(6);
        for (int i = 0; i < n; i++) {
            row.add(x.body(i));
        }
        return row;
    }

    /** Its numbers are seen as GAS; those behind one that can't be GAS come to the head one by one. */
    static List<Integer> sheets(FoamHead x) {
        List<Integer> row = new ArrayList<>();
        for (int s = 0; s < 4; s++) {
            for (int shift = 0; shift < 24; shift++) {
                row.add(x.gases(s));
                for (int b = 0; b < 16; b++) {
                    row.add((x.count(1) >>> b & 1) == 1 ? x.bubbleIs(b, 1) : -1);
                }
                row.add(x.move(s, 1, s, 0, 23));
            }
        }
        return row;
    }
}
