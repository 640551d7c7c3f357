import java.util.ArrayList;
import java.util.Collections;
import java.util.List;

/** Runs of random calls: against a second, plain model of the foam, then any call with any numbers. */
public final class RandomRunsTest extends Checks {
    private static int z = 99;

    private static int draw(int n) {
        z = z * 1103515245 + 12345;
        return (z >>> 8) % n;
    }

    public static void main(String[] args) {
        for (int run = 0; run < 300; run++) {
            agreesWithTheModel(run);
        }
        for (int run = 0; run < 300; run++) {
            faultsAreFirst(run);
        }
        for (int run = 0; run < 200; run++) {
            anyCallAnswers(run);
        }
        end();
    }

    // ---- the model

    /** The document once more, with lists and without care for speed. */
    private static final class Model {
        final List<List<Integer>> rings = new ArrayList<>();
        final int[] kind = new int[16];
        final int[] gas = new int[16];
        final int[] water = new int[16];
        final int[] row = new int[16];
        final String[] texts = new String[3];
        int rate = 10;
        int dryness = 5;
        int p = 1;
        int q = 2;
        int seed = 1;
        int ticks;
        long drained;
        int turned;
        int vanished;
        int burst;

        Model(int w, int h, int g) {
            for (int b = 0; b < 16; b++) {
                rings.add(null);
            }
            for (int b = 0; b < w * h; b++) {
                gas[b] = g;
                row[b] = b / w;
                int c = b % w;
                int odd = row[b] % 2;
                List<Integer> ring = new ArrayList<>();
                stand(ring, w, h, row[b], c + 1);
                stand(ring, w, h, row[b] + 1, c + odd);
                stand(ring, w, h, row[b] + 1, c + odd - 1);
                stand(ring, w, h, row[b], c - 1);
                stand(ring, w, h, row[b] - 1, c + odd - 1);
                stand(ring, w, h, row[b] - 1, c + odd);
                while (ring.size() > 1 && ring.get(0) == 16 && ring.get(ring.size() - 1) == 16) {
                    ring.remove(0);
                }
                rings.set(b, ring);
            }
        }

        private static void stand(List<Integer> ring, int w, int h, int r, int c) {
            int x = r < 0 || r >= h || c < 0 || c >= w ? 16 : r * w + c;
            if (x != 16 || ring.isEmpty() || ring.get(ring.size() - 1) != 16) {
                ring.add(x);
            }
        }

        boolean has(int b) {
            return b >= 0 && b < 16 && rings.get(b) != null;
        }

        int sides(int b) {
            return rings.get(b).size();
        }

        boolean wall(int a, int b) {
            return has(a) && has(b) && rings.get(a).contains(b);
        }

        /** The RING with b at its head, so that the ENDS are its last and its second. */
        private List<Integer> from(int a, int b) {
            List<Integer> ring = new ArrayList<>(rings.get(a));
            Collections.rotate(ring, -ring.indexOf(b));
            return ring;
        }

        int ahead(int a, int b) {
            return from(a, b).get(sides(a) - 1);
        }

        int behind(int a, int b) {
            return from(a, b).get(1 % sides(a));
        }

        List<Integer> told(int b) {
            return from(b, Collections.min(rings.get(b)));
        }

        private boolean big(int x) {
            return x == 16 || sides(x) > 3;
        }

        boolean canTurn(int a, int b) {
            int c = ahead(a, b);
            int d = behind(a, b);
            boolean touch = c != d && (c == 16 ? rings.get(d).contains(c) : rings.get(c).contains(d));
            return sides(a) > 3 && sides(b) > 3 && c != d && !touch;
        }

        void turn(int a, int b) {
            int c = ahead(a, b);
            int d = behind(a, b);
            rings.get(a).remove((Integer) b);
            rings.get(b).remove((Integer) a);
            between(c, a, b, d);
            between(d, a, b, c);
            turned++;
        }

        private void between(int in, int a, int b, int x) {
            if (in == 16) {
                return;
            }
            List<Integer> ring = from(in, a);
            if (ring.get(1) == b) {
                ring.add(1, x);
            } else if (ring.get(ring.size() - 1) == b) {
                ring.add(x);
            } else {
                due("a and b stand together in the ring of " + in, 0, 1);
            }
            rings.set(in, ring);
        }

        boolean canVanish(int b) {
            boolean can = sides(b) == 3;
            for (int x : rings.get(b)) {
                can &= big(x);
            }
            return can;
        }

        void vanish(int b) {
            rings.set(b, null);
            for (List<Integer> ring : rings) {
                if (ring != null) {
                    ring.remove((Integer) b);
                }
            }
            vanished++;
        }

        boolean canBurst(int a, int b) {
            int c = ahead(a, b);
            int d = behind(a, b);
            if (c == d || !big(c) || !big(d)) {
                return false;
            }
            List<Integer> both = new ArrayList<>(rings.get(a));
            both.retainAll(rings.get(b));
            both.removeAll(List.of(c, d));
            return both.isEmpty();
        }

        void burst(int one, int other) {
            int a = Math.min(one, other);
            int b = Math.max(one, other);
            List<Integer> joined = from(a, b);
            joined.remove(0);
            List<Integer> ofOther = from(b, a);
            joined.addAll(ofOther.subList(2, ofOther.size() - 1));
            rings.set(b, null);
            rings.set(a, joined);
            for (int x = 0; x < 16; x++) {
                List<Integer> ring = rings.get(x);
                if (x != a && ring != null && ring.contains(b)) {
                    if (ring.contains(a)) {
                        ring.remove((Integer) b);
                    } else {
                        ring.set(ring.indexOf(b), a);
                    }
                }
            }
            kind[a] = 6;
            gas[a] = Math.min(99999, gas[a] + gas[b]);
            water[a] = Math.min(99999, water[a] + water[b]);
            burst++;
        }

        int lets(int b) {
            return new int[] {12, 4, 7, 12, 6, 10, 12}[kind[b]];
        }

        int dry(int b) {
            return new int[] {dryness, dryness, dryness, dryness / 2, dryness * 2, 0, dryness}[kind[b]];
        }

        long passing(int a, int b) {
            long law = texts[0] == null ? sides(b) - sides(a)
                : new Sum(texts[0], "stghn", sides(a), sides(b), gas[a], gas[b], ticks).all();
            return Math.max(-9999, Math.min(9999, rate * law)) * lets(a) * lets(b) / 144;
        }

        boolean isDry(int a, int b) {
            int w = Math.min(water[a], water[b]);
            int v = Math.max(water[a], water[b]);
            return texts[1] == null ? w < dry(a) || w < dry(b)
                : new Sum(texts[1], "wvstn", w, v, sides(a), sides(b), ticks).all() != 0;
        }

        int mark(int b) {
            return texts[2] == null ? 0
                : new Sum(texts[2], "sgwrk", sides(b), gas[b], water[b], row[b], kind[b]).all();
        }

        void tick() {
            for (int a = 0; a < 16; a++) {
                for (int b = a + 1; b < 16; b++) {
                    if (wall(a, b)) {
                        long flow = passing(a, b);
                        if (flow > 0) {
                            flow = Math.min(flow, Math.min(gas[a], 99999 - gas[b]));
                        } else {
                            flow = -Math.min(-flow, Math.min(gas[b], 99999 - gas[a]));
                        }
                        gas[a] -= flow;
                        gas[b] += flow;
                    }
                }
            }
            runDown();
            for (int a = 0; a < 16; a++) {
                for (int b = a + 1; b < 16; b++) {
                    if (wall(a, b) && isDry(a, b)) {
                        seed = seed * 1103515245 + 12345;
                        if ((seed >>> 8) % q < p && canBurst(a, b)) {
                            burst(a, b);
                        }
                    }
                }
            }
            for (int b = 0; b < 16; b++) {
                if (has(b) && gas[b] == 0) {
                    empty(b);
                }
            }
            ticks++;
        }

        private void runDown() {
            int[] was = water.clone();
            for (int b = 0; b < 16; b++) {
                if (!has(b)) {
                    continue;
                }
                int gives = was[b] / (kind[b] == 3 || kind[b] == 5 ? 8 : 4);
                List<Integer> below = new ArrayList<>(rings.get(b));
                int at = row[b];
                below.removeIf(x -> x == 16 || row[x] <= at);
                for (int x : below) {
                    water[x] += gives / below.size();
                    water[b] -= gives / below.size();
                }
                if (below.isEmpty() && rings.get(b).contains(16)) {
                    water[b] -= gives;
                    drained += gives;
                }
            }
            for (int b = 0; b < 16; b++) {
                if (has(b) && water[b] > 99999) {
                    drained += water[b] - 99999;
                    water[b] = 99999;
                }
            }
        }

        private void empty(int b) {
            if (sides(b) == 3 && canVanish(b)) {
                vanish(b);
            } else if (sides(b) > 3) {
                for (int x : told(b)) {
                    if (x != 16 && canTurn(b, x)) {
                        turn(b, x);
                        return;
                    }
                }
            }
        }
    }

    /** Works a TEXT that has no FAULT out as it reads it. */
    private static final class Sum {
        private static final String[] SIGNS = {"|", "&", "<=>", "+-", "*/%"};
        private final String text;
        private final String names;
        private final int[] values;
        private int at;

        Sum(String text, String names, int... values) {
            this.text = text;
            this.names = names;
            this.values = values;
        }

        int all() {
            at = 0;
            return level(0);
        }

        private int level(int level) {
            if (level == SIGNS.length) {
                return single();
            }
            int v = level(level + 1);
            while (at < text.length() && SIGNS[level].indexOf(text.charAt(at)) >= 0) {
                char sign = text.charAt(at++);
                int w = level(level + 1);
                switch (sign) {
                    case '|': v = v != 0 | w != 0 ? 1 : 0; break;
                    case '&': v = v != 0 & w != 0 ? 1 : 0; break;
                    case '<': v = v < w ? 1 : 0; break;
                    case '=': v = v == w ? 1 : 0; break;
                    case '>': v = v > w ? 1 : 0; break;
                    case '+': v += w; break;
                    case '-': v -= w; break;
                    case '*': v *= w; break;
                    case '/': v = w == 0 ? 0 : v / w; break;
                    default: v = w == 0 ? 0 : v % w; break;
                }
            }
            return v;
        }

        private int single() {
            char c = text.charAt(at++);
            if (c == '!') {
                return single() == 0 ? 1 : 0;
            }
            if (c == '(') {
                int v = level(0);
                at++;
                return v;
            }
            if (Character.isDigit(c)) {
                int from = at - 1;
                while (at < text.length() && Character.isDigit(text.charAt(at))) {
                    at++;
                }
                return Integer.parseInt(text.substring(from, at));
            }
            return values[names.indexOf(c)];
        }
    }

    // ---- texts by draws

    private static String made(String names, int level, int open) {
        if (level == 5) {
            int what = draw(open < 5 ? 10 : 8);
            if (what < 3) {
                return "" + draw(draw(3) == 0 ? 10000 : 12);
            }
            if (what < 8) {
                return "" + names.charAt(draw(5));
            }
            return what == 8 ? "!" + made(names, 5, open + 1) : "(" + made(names, 0, open + 1) + ")";
        }
        StringBuilder text = new StringBuilder(made(names, level + 1, open));
        int more = draw(6) == 0 ? level == 2 ? 1 : 1 + draw(2) : 0;
        for (int i = 0; i < more; i++) {
            String signs = Sum.SIGNS[level];
            text.append(signs.charAt(draw(signs.length()))).append(made(names, level + 1, open));
        }
        return text.toString();
    }

    // ---- runs against the model

    private static void agreesWithTheModel(int run) {
        FoamHead x = new FoamHead();
        int w = 1 + draw(4);
        int h = 1 + draw(4);
        int g = draw(3) == 0 ? draw(100000) : draw(60);
        x.foam(w, h, g);
        Model m = new Model(w, h, g);
        setRules(x, m);
        for (int i = 0; i < 60; i++) {
            int a = draw(16);
            int b = draw(16);
            // ticks soon leave three bubbles only, so some runs have none
            act(x, m, a, b, draw(run % 3 == 0 ? 7 : 8));
            same(x, m, "run " + run + ", act " + i + ": ");
        }
    }

    private static void setRules(FoamHead x, Model m) {
        String[] names = {"stghn", "wvstn", "sgwrk"};
        for (int use = 0; use < 3; use++) {
            String text = made(names[use], 0, 0);
            if (draw(2) == 0 && text.length() <= 60) {
                feed(x, text);
                due("text " + text, x.text(use), 1);
                m.texts[use] = text;
            }
        }
        if (draw(2) == 0) {
            m.rate = draw(100);
            m.dryness = draw(100);
            m.p = draw(10);
            m.q = 1 + draw(9);
            x.rule(0, m.rate);
            x.rule(1, m.dryness);
            x.rule(2, 10 * m.p + m.q);
        }
        m.seed = draw(1000000) * 4099;
        x.seed(m.seed);
    }

    private static void act(FoamHead x, Model m, int a, int b, int which) {
        boolean wall = m.wall(a, b);
        int no = LOW - (m.has(a) && m.has(b) ? 3 : 1);
        switch (which) {
            case 0: case 1: case 2:
                boolean turns = wall && m.canTurn(a, b);
                if (turns) {
                    m.turn(a, b);
                }
                due("turn(" + a + ", " + b + ")", x.turn(a, b), turns ? m.sides(a) : no);
                break;
            case 3:
                boolean bursts = wall && m.canBurst(a, b) && draw(3) == 0;
                if (bursts) {
                    m.burst(a, b);
                    due("burst(" + a + ", " + b + ")", x.burst(a, b), Math.min(a, b));
                }
                break;
            case 4:
                boolean can = m.has(a) && m.canVanish(a);
                if (can) {
                    m.vanish(a);
                }
                due("vanish(" + a + ")", x.vanish(a) > LOW ? 1 : 0, can ? 1 : 0);
                break;
            case 5:
                if (m.has(a)) {
                    m.kind[a] = draw(7);
                    x.become(a, m.kind[a]);
                    m.gas[a] = draw(3) == 0 ? 0 : draw(3) == 0 ? draw(100000) : draw(100);
                    x.fill(a, 0, m.gas[a]);
                }
                break;
            case 6:
                if (m.has(a)) {
                    m.water[a] = draw(3) == 0 ? 99999 - draw(9) : draw(500);
                    x.fill(a, 1, m.water[a]);
                }
                break;
            default:
                ticks(x, m);
                break;
        }
    }

    private static void ticks(FoamHead x, Model m) {
        int n = 1 + draw(4);
        int[] left = new int[n + 1];
        left[0] = alive(m);
        int[] stands = new int[17];
        for (int k = 0; k <= 16; k++) {
            stands[k] = x.stands(k, n);
        }
        for (int i = 1; i <= n; i++) {
            m.tick();
            left[i] = alive(m);
        }
        for (int k = 0; k <= 16; k++) {
            int want = LOW - 2;
            for (int i = n; i >= 0; i--) {
                want = left[i] <= k ? i : want;
            }
            due("stands(" + k + ", " + n + ")", stands[k], want);
        }
        due("tick(" + n + ")", x.tick(n), left[n]);
    }

    private static int alive(Model m) {
        int n = 0;
        for (int b = 0; b < 16; b++) {
            n += m.has(b) ? 1 : 0;
        }
        return n;
    }

    private static void same(FoamHead x, Model m, String where) {
        due(where + "count(0)", x.count(0), alive(m));
        due(where + "count(3)", x.count(3), m.ticks);
        due(where + "count(7)", x.count(7), m.seed);
        due(where + "all(2)", x.all(2), m.drained);
        due(where + "all(3)", x.all(3), m.turned);
        due(where + "all(4)", x.all(4), m.vanished);
        due(where + "all(5)", x.all(5), m.burst);
        for (int a = 0; a < 16; a++) {
            if (!m.has(a)) {
                due(where + "bubbleIs(" + a + ", 0)", x.bubbleIs(a, 0), LOW - 1);
                continue;
            }
            int[] is = {m.kind[a], m.gas[a], m.water[a], m.row[a], m.sides(a),
                Collections.frequency(m.rings.get(a), 16), m.dry(a), m.lets(a), m.mark(a)};
            for (int what = 0; what < is.length; what++) {
                due(where + "bubbleIs(" + a + ", " + what + ")", x.bubbleIs(a, what), is[what]);
            }
            for (int i = 0; i < m.sides(a); i++) {
                due(where + "ring(" + a + ", " + i + ")", x.ring(a, i), m.told(a).get(i));
            }
            due(where + "can(2, " + a + ", 0)", x.can(2, a, 0), m.sides(a) != 3 ? LOW - 3 : m.canVanish(a) ? 1 : 0);
            for (int b : m.rings.get(a)) {
                if (b != 16) {
                    sameWall(x, m, a, b, where + "wall of " + a + " and " + b);
                }
            }
        }
    }

    private static void sameWall(FoamHead x, Model m, int a, int b, String where) {
        due(where + ": end 0", x.end(a, b, 0), m.ahead(a, b));
        due(where + ": end 1", x.end(a, b, 1), m.behind(a, b));
        due(where + ": end 0 from there", x.end(b, a, 1), m.ahead(a, b));
        due(where + ": can turn", x.can(0, a, b), m.canTurn(a, b) ? 1 : 0);
        due(where + ": can burst", x.can(1, a, b), m.canBurst(a, b) ? 1 : 0);
        due(where + ": passes", x.passes(a, b), a < b ? m.passing(a, b) : -m.passing(b, a));
    }

    // ---- texts with faults

    /** What stands ahead of a FAULT can go on; with the byte at it nothing can. */
    private static void faultsAreFirst(int run) {
        FoamHead x = new FoamHead();
        String names = "sgwrk";
        for (int i = 0; i < 20; i++) {
            StringBuilder text = new StringBuilder(made(names, 0, 0));
            for (int j = draw(3); j > 0; j--) {
                text.insert(draw(text.length() + 1), "()!+<7s&x".charAt(draw(9)));
            }
            if (text.length() > 60) {
                text.setLength(60);
            }
            feed(x, text.toString());
            int answer = x.text(2);
            int fault = answer == 1 ? text.length() : -10 - answer;
            for (int n = 0; n <= text.length(); n++) {
                feed(x, text.substring(0, n));
                int part = x.text(2);
                boolean fits = n <= fault ? part == 1 || part == -10 - n : part == -10 - fault;
                due("run " + run + ", text " + text.substring(0, n) + " of " + text, fits ? 1 : 0, 1);
            }
        }
    }

    // ---- any call

    private static int any() {
        switch (draw(12)) {
            case 0: return Integer.MIN_VALUE + draw(3);
            case 1: return Integer.MAX_VALUE - draw(3);
            case 2: return draw(100000);
            case 3: return -draw(20);
            case 4: return 14 + draw(60);
            default: return draw(16);
        }
    }

    private static int call(FoamHead x, int which) {
        int a = any();
        int b = any();
        int c = any();
        switch (which) {
            case 0: return draw(20) == 0 ? x.foam(draw(6), draw(6), draw(3) * c) : 0;
            case 1: return x.bubbleIs(a, b);
            case 2: return x.as(a, b);
            case 3: return x.become(a, b);
            case 4: return x.fill(a, draw(3), c);
            case 5: return x.ring(a, b);
            case 6: return x.beside(a, b);
            case 7: return x.end(a, b, draw(3));
            case 8: return x.can(draw(4), a, b);
            case 9: return x.turn(a, b);
            case 10: return x.vanish(a);
            case 11: return x.burst(a, b);
            case 12: return x.feed((long) a << 32 ^ b, draw(10));
            case 13: return x.text(draw(4));
            case 14: return x.untell(draw(4));
            case 15: return x.rule(draw(4), a);
            case 16: return x.passes(a, b);
            case 17: return draw(4) == 0 ? x.tick(a) : 0;
            case 18: return x.stands(a, b);
            case 19: return x.seed(a);
            case 20: return x.all(a);
            case 21: return x.pace(a);
            case 22: return x.sides(a);
            case 23: return x.around(a);
            case 24: return x.first(a);
            case 25: return x.way(a, b);
            case 26: return x.colour(a, b);
            case 27: return x.apart(a);
            case 28: return x.marked(a);
            case 29: return x.voice(a, draw(5), c);
            case 30: return x.body(a);
            case 31: return x.sheet(draw(5), draw(6) * 8, c);
            case 32: return x.put(draw(5), b, c);
            case 33: return x.move(draw(5), a, draw(5), b, c);
            case 34: return x.gases(draw(5));
            case 35: return x.image();
            case 36: return x.restore();
            case 37: return x.tell(a);
            case 38: return x.check(a);
            case 39: return x.count(a);
            default: return x.told(a);
        }
    }

    private static void anyCallAnswers(int run) {
        FoamHead x = new FoamHead();
        int[] errors = new int[7];
        if (run % 10 != 0) {
            x.foam(1 + draw(4), 1 + draw(4), draw(60));
        }
        for (int i = 0; i < 500; i++) {
            int which = draw(41);
            int answer = call(x, which);
            boolean free = which == 19 || which == 29 || which == 1 || which == 28 || which == 39;
            if (!free && answer < LOW && answer >= LOW - 6) {
                errors[LOW - answer]++;
            } else if (free) {
                for (int k = 1; k <= 6; k++) {
                    errors[k] = x.told(k);
                }
            }
            due("run " + run + ": count(0)", x.count(0), Integer.bitCount(x.count(1)));
        }
        for (int k = 1; k <= 6; k++) {
            due("run " + run + ": told(" + k + ")", x.told(k), errors[k]);
        }
    }
}
