/** Promises 23 to 30: what is seen; hand-made answers, then slow searches over many foams. */
public final class SeenTest extends Checks {
    public static void main(String[] args) {
        tellsPace();
        countsSides();
        looksAround();
        findsTheFirst();
        findsWays();
        colours();
        findsApart();
        marks();
        nothingIsSeenInNoFoam();
        agreesWithSlowSearches();
        end();
    }

    private static void tellsPace() {
        FoamHead x = foam(3, 3, 5);
        due("pace(0)", x.pace(0), -30);
        due("pace(4)", x.pace(4), 0);
        x.rule(0, 99);
        due("pace(0)", x.pace(0), -297);
        x.turn(2, 5);
        due("pace(4)", x.pace(4), 99);
        due("pace(9)", x.pace(9), BEYOND);
        due("pace(-1)", x.pace(-1), BEYOND);
        x.vanish(0);
        due("pace(0)", x.pace(0), BEYOND);
    }

    private static void countsSides() {
        FoamHead x = foam(3, 3, 5);
        int[] want = {0, 0, 0, 2, 3, 2, 2, 0};
        for (int s = 0; s < want.length; s++) {
            due("sides(" + s + ")", x.sides(s), want[s]);
        }
        due("sides(60)", x.sides(60), 0);
        due("sides(61)", x.sides(61), BEYOND);
        due("sides(-1)", x.sides(-1), BEYOND);
        x.vanish(0);
        due("sides(0): what is gone has none", x.sides(0), 0);
        due("sides(3)", x.sides(3), 1);
    }

    private static void looksAround() {
        FoamHead x = foam(3, 3, 5);
        due("around(6)", x.around(6), 454);
        due("around(3)", x.around(3), 550);
        due("around(7)", x.around(7), NONE);
        due("around(60)", x.around(60), NONE);
        due("around(61)", x.around(61), BEYOND);
        due("around(-1)", x.around(-1), BEYOND);
        x = foam(1, 1, 5);
        due("around(1): none is beside", x.around(1), NONE);
        x = foam(1, 2, 5);
        due("around(2)", x.around(2), 200);
    }

    private static void findsTheFirst() {
        FoamHead x = foam(3, 3, 5);
        due("first(0)", x.first(0), 0);
        due("first(1)", x.first(1), 0);
        due("first(2)", x.first(2), 3);
        due("first(3)", x.first(3), 0);
        x.fill(7, 0, 9);
        x.fill(8, 0, 9);
        x.fill(3, 0, 1);
        x.fill(4, 0, 1);
        due("first(0)", x.first(0), 7);
        due("first(1)", x.first(1), 3);
        x.vanish(0);
        due("first(3)", x.first(3), 6);
        due("first(4)", x.first(4), BEYOND);
        due("first(-1)", x.first(-1), BEYOND);
    }

    private static void findsWays() {
        FoamHead x = foam(3, 3, 5);
        due("way(0, 0)", x.way(0, 0), 0);
        due("way(0, 1)", x.way(0, 1), 1);
        due("way(0, 4)", x.way(0, 4), 2);
        due("way(0, 8)", x.way(0, 8), 3);
        due("way(8, 0)", x.way(8, 0), 3);
        due("way(0, 9)", x.way(0, 9), BEYOND);
        due("way(-1, 0)", x.way(-1, 0), BEYOND);
        x.burst(3, 4);
        due("way(0, 8)", x.way(0, 8), 2);
        due("way(4, 8)", x.way(4, 8), BEYOND);
    }

    private static void colours() {
        FoamHead x = foam(3, 3, 5);
        int[] three = {0, 1, 2, 2, 0, 1, 0, 1, 2};
        int[] four = {0, 1, 0, 2, 3, 1, 0, 1, 0};
        for (int b = 0; b < 9; b++) {
            due("colour(3, " + b + ")", x.colour(3, b), three[b]);
            due("colour(4, " + b + ")", x.colour(4, b), four[b]);
            due("colour(2, " + b + ")", x.colour(2, b), NONE);
        }
        due("colour(0, 0)", x.colour(0, 0), BEYOND);
        due("colour(5, 0)", x.colour(5, 0), BEYOND);
        due("colour(2, 9)", x.colour(2, 9), BEYOND);
        due("colour(2, -1)", x.colour(2, -1), BEYOND);
        x = foam(2, 1, 5);
        due("colour(1, 0)", x.colour(1, 0), NONE);
        due("colour(2, 0)", x.colour(2, 0), 0);
        due("colour(2, 1)", x.colour(2, 1), 1);
        x = foam(1, 1, 5);
        due("colour(1, 0)", x.colour(1, 0), 0);
    }

    private static void findsApart() {
        FoamHead x = foam(3, 3, 5);
        due("apart(0)", x.apart(0), 4);
        due("apart(1): 0, 2, 6, 8", x.apart(1), 325);
        due("apart(2)", x.apart(2), BEYOND);
        due("apart(-1)", x.apart(-1), BEYOND);
        x = foam(2, 1, 5);
        due("apart(0)", x.apart(0), 1);
        due("apart(1)", x.apart(1), 1);
        x = foam(4, 1, 5);
        due("apart(1): the least of three sets", x.apart(1), 5);
    }

    private static void marks() {
        FoamHead x = foam(3, 3, 5);
        due("marked(0)", x.marked(0), 0);
        due("marked(1)", x.marked(1), 0);
        due("marked(2)", x.marked(2), 0);
        text(x, 2, "s-4");
        due("marked(0)", x.marked(0), 6);
        due("marked(1)", x.marked(1), 1 + 2 + 8 + 16 + 64 + 128);
        due("marked(2)", x.marked(2), -1 + 1 + 2 + 2 - 1 + 1);
        text(x, 2, "0-9999*9999");
        due("marked(2): wraps", x.marked(2), 9 * -99980001);
        x.vanish(0);
        due("marked(0)", x.marked(0), 8);
        due("marked(3)", x.marked(3), BEYOND);
        due("marked(-1)", x.marked(-1), BEYOND);
    }

    private static void nothingIsSeenInNoFoam() {
        FoamHead x = new FoamHead();
        for (int what = 0; what < 4; what++) {
            due("first(" + what + ")", x.first(what), NONE);
        }
        due("apart(0)", x.apart(0), 0);
        due("apart(1)", x.apart(1), 0);
        due("sides(0)", x.sides(0), 0);
        due("around(0)", x.around(0), NONE);
        due("way(0, 0)", x.way(0, 0), BEYOND);
        due("colour(1, 0)", x.colour(1, 0), BEYOND);
        due("marked(0)", x.marked(0), 0);
    }

    private static void agreesWithSlowSearches() {
        int z = 7;
        for (int run = 0; run < 60; run++) {
            FoamHead x = foam(1 + run % 4, 1 + run / 4 % 4, 50);
            for (int i = 0; i < 25; i++) {
                z = z * 1103515245 + 12345;
                int a = z >>> 8 & 15;
                int b = z >>> 12 & 15;
                switch ((z >>> 16 & 7)) {
                    case 0: x.burst(a, b); break;
                    case 1: x.vanish(a); break;
                    default: x.turn(a, b); break;
                }
            }
            seesAsSlowly(x);
        }
    }

    private static void seesAsSlowly(FoamHead x) {
        int alive = x.count(1);
        int[] beside = new int[16];
        for (int a = 0; a < 16; a++) {
            for (int b = 0; b < 16; b++) {
                if (a != b && x.beside(a, b) == 1) {
                    beside[a] |= 1 << b;
                }
            }
        }
        slowApart(x, alive, beside);
        slowColours(x, alive, beside);
        slowWays(x, alive, beside);
    }

    private static void slowApart(FoamHead x, int alive, int[] beside) {
        int best = 0;
        for (int set = 0; set < 1 << 16; set++) {
            boolean fits = (set & ~alive) == 0;
            for (int b = 0; fits && b < 16; b++) {
                fits = (set >>> b & 1) == 0 || (set & beside[b]) == 0;
            }
            if (fits && Integer.bitCount(set) > Integer.bitCount(best)) {
                best = set;
            }
        }
        due("apart(0)", x.apart(0), Integer.bitCount(best));
        due("apart(1)", x.apart(1), best);
    }

    /** Goes through rows as numbers of k digits, the digit of bubble 0 being the greatest. */
    private static void slowColours(FoamHead x, int alive, int[] beside) {
        for (int k = 1; k <= 4; k++) {
            int[] row = new int[17];
            int b = 0;
            while (b >= 0 && b < 16) {
                if ((alive >>> b & 1) == 0) {
                    b++;
                    row[b] = 0;
                } else if (row[b] >= k) {
                    b--;
                    while (b >= 0 && (alive >>> b & 1) == 0) {
                        b--;
                    }
                    if (b >= 0) {
                        row[b]++;
                    }
                } else {
                    boolean fits = true;
                    for (int c = 0; c < b; c++) {
                        fits &= (beside[b] >>> c & 1) == 0 || row[c] != row[b];
                    }
                    if (fits) {
                        b++;
                        row[b] = 0;
                    } else {
                        row[b]++;
                    }
                }
            }
            for (int c = 0; c < 16; c++) {
                int want = (alive >>> c & 1) == 0 ? BEYOND : b < 0 ? NONE : row[c];
                due("colour(" + k + ", " + c + ")", x.colour(k, c), want);
            }
        }
    }

    private static void slowWays(FoamHead x, int alive, int[] beside) {
        int[][] far = new int[16][16];
        for (int a = 0; a < 16; a++) {
            for (int b = 0; b < 16; b++) {
                far[a][b] = a == b ? 0 : (beside[a] >>> b & 1) == 1 ? 1 : 99;
            }
        }
        for (int c = 0; c < 16; c++) {
            for (int a = 0; a < 16; a++) {
                for (int b = 0; b < 16; b++) {
                    far[a][b] = Math.min(far[a][b], far[a][c] + far[c][b]);
                }
            }
        }
        for (int a = 0; a < 16; a++) {
            for (int b = 0; b < 16; b++) {
                boolean are = (alive >>> a & alive >>> b & 1) == 1;
                due("way(" + a + ", " + b + ")", x.way(a, b), !are ? BEYOND : far[a][b] == 99 ? NONE : far[a][b]);
            }
        }
    }
}
