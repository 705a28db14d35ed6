import java.util.ArrayList;
import java.util.Arrays;
import java.util.List;
import java.util.Random;
import java.util.stream.IntStream;

/**
 * Goes through the nets that can be told, one kind, size and set of wires after the other, and looks at what is
 * answered of all their states and of runs from some of them. What is due is worked out by tables of all moves:
 * WORST in rounds (a state is settled when all its moves are), BEST and HITS by going down from above.
 * Without an argument every 11th net is taken and all of two or three machines; with the argument "all" each one.
 */
public final class AllNetsTest {
    static final int NO = -2, NONE = -4, EVER = -5;
    static final int STRIDE = 11, STARTS = 9;

    public static void main(String[] args) {
        boolean each = args.length > 0 && args[0].equals("all");
        List<Told> nets = allNets();
        int[] taken = IntStream.range(0, nets.size()).filter(k -> each || k % STRIDE == 0 || nets.get(k).n < 4).toArray();
        List<String> wrong = Arrays.stream(taken).parallel()
            .mapToObj(k -> new Look(nets.get(k), new Random(k)).firstWrong())
            .filter(told -> told != null).toList();
        wrong.stream().limit(20).forEach(System.out::println);
        System.out.println(taken.length + " of " + nets.size() + " nets looked at, " + wrong.size() + " wrong");
        System.exit(wrong.isEmpty() && taken.length > 0 ? 0 : 1);
    }

    static List<Told> allNets() {
        List<Told> all = new ArrayList<>();
        for (int t = 1; t <= 4; t++) {
            for (int n = 2; n <= 6; n++) {
                for (int v = 2; v <= 7; v++) {
                    boolean fits = power(v, n) <= 4096 && (t != 2 || v == n + 1) && (t != 3 || v >= n);
                    int sets = !fits ? 0 : t == 1 ? 1 : 1 << n * (n - 1) / 2;
                    for (int set = 0; set < sets; set++) {
                        Told told = new Told(t, n, v, set);
                        if (t != 4 || told.mostWires() < v) {
                            all.add(told);
                        }
                    }
                }
            }
        }
        return all;
    }

    static int power(int v, int n) {
        int all = 1;
        for (int i = 0; i < n; i++) {
            all *= v;
        }
        return all;
    }

    /** A net as a text tells it; its wires are the pairs whose bits are set. */
    static final class Told {
        final int t, n, v;
        final boolean[][] wire;
        final String text;
        int wires = 0;

        Told(int t, int n, int v, int set) {
            this.t = t;
            this.n = n;
            this.v = v;
            wire = new boolean[n][n];
            StringBuilder items = new StringBuilder("g" + t + n + v + ";");
            int bit = 0;
            for (int a = 0; a < n; a++) {
                for (int b = a + 1; b < n; b++, bit++) {
                    if ((set >> bit & 1) == 1) {
                        wire[a][b] = true;
                        wire[b][a] = true;
                        wires++;
                        items.append('e').append(bit % 2 == 0 ? a : b).append(bit % 2 == 0 ? b : a).append(';');
                    }
                }
            }
            text = items.toString();
        }

        int mostWires() {
            int most = 0;
            for (boolean[] row : wire) {
                int many = 0;
                for (boolean w : row) {
                    many += w ? 1 : 0;
                }
                most = Math.max(most, many);
            }
            return most;
        }
    }

    /** All moves of all states of a net, and what follows from them. */
    static final class Moves {
        final Told told;
        final int states;
        final int[][] value, behind;
        final int[] tokens, worst, best, hits;

        Moves(Told told) {
            this.told = told;
            states = power(told.v, told.n);
            value = new int[states][told.n];
            behind = new int[states][told.n];
            tokens = new int[states];
            worst = new int[states];
            best = new int[states];
            hits = new int[states];
            for (int c = 0; c < states; c++) {
                for (int i = 0, rest = c; i < told.n; i++, rest /= told.v) {
                    value[c][i] = rest % told.v;
                }
            }
            for (int c = 0; c < states; c++) {
                for (int i = 0; i < told.n; i++) {
                    int then = then(value[c], i);
                    behind[c][i] = then == NONE ? c : c + (then - value[c][i]) * power(told.v, i);
                    tokens[c] |= then == NONE ? 0 : 1 << i;
                }
            }
            settleWorst();
            fall(best, true);
            fall(hits, false);
        }

        boolean legal(int c) {
            return told.t == 1 ? Integer.bitCount(tokens[c]) == 1 : tokens[c] == 0;
        }

        int then(int[] s, int i) {
            return switch (told.t) {
                case 1 -> counter(s, i);
                case 2 -> pointer(s, i);
                case 3 -> distance(s, i);
                default -> colour(s, i);
            };
        }

        int counter(int[] s, int i) {
            if (i == 0) {
                return s[0] == s[told.n - 1] ? (s[0] + 1) % told.v : NONE;
            }
            return s[i] == s[i - 1] ? NONE : s[i - 1];
        }

        int pointer(int[] s, int i) {
            if (s[i] > 0) {
                int at = s[i] - 1;
                boolean may = at == i || !told.wire[i][at] || (s[at] != 0 && s[at] != i + 1);
                return may ? 0 : NONE;
            }
            for (int j = 0; j < told.n; j++) {
                if (told.wire[i][j] && s[j] == i + 1) {
                    return j + 1;
                }
            }
            for (int j = 0; j < told.n; j++) {
                if (told.wire[i][j] && s[j] == 0) {
                    return j + 1;
                }
            }
            return NONE;
        }

        int distance(int[] s, int i) {
            int least = told.v;
            for (int j = 0; j < told.n; j++) {
                least = told.wire[i][j] ? Math.min(least, s[j]) : least;
            }
            int wants = i == 0 ? 0 : Math.min(least + 1, told.v - 1);
            return wants == s[i] ? NONE : wants;
        }

        int colour(int[] s, int i) {
            boolean[] near = new boolean[told.v];
            for (int j = 0; j < told.n; j++) {
                near[s[j]] |= told.wire[i][j];
            }
            int lowest = 0;
            while (near[s[i]] && near[lowest]) {
                lowest++;
            }
            return near[s[i]] ? lowest : NONE;
        }

        int rule(int c, int i) {
            if ((tokens[c] >> i & 1) == 0) {
                return 0;
            }
            if (told.t != 2) {
                return 1;
            }
            int at = value[behind[c][i]][i];
            return at == 0 ? 3 : value[c][at - 1] == 0 ? 2 : 1;
        }

        void settleWorst() {
            for (int c = 0; c < states; c++) {
                worst[c] = legal(c) ? 0 : EVER;
            }
            for (boolean more = true; more;) {
                more = false;
                for (int c = 0; c < states; c++) {
                    if (worst[c] == EVER) {
                        worst[c] = longest(c);
                        more |= worst[c] != EVER;
                    }
                }
            }
        }

        int longest(int c) {
            int most = 0;
            for (int i = 0; i < told.n; i++) {
                if ((tokens[c] >> i & 1) == 1) {
                    if (worst[behind[c][i]] == EVER) {
                        return EVER;
                    }
                    most = Math.max(most, worst[behind[c][i]] + 1);
                }
            }
            return most;
        }

        /** Fewest changes of one value to a legal state: by moves, or of any value. */
        void fall(int[] fewest, boolean byMoves) {
            int far = 1 << 20;
            for (int c = 0; c < states; c++) {
                fewest[c] = legal(c) ? 0 : far;
            }
            for (boolean more = true; more;) {
                more = false;
                for (int c = 0; c < states; c++) {
                    int least = fewest[c];
                    for (int i = 0; i < told.n; i++) {
                        least = Math.min(least, byMoves ? fewest[behind[c][i]] + 1 : leastBeside(fewest, c, i) + 1);
                    }
                    more |= least < fewest[c];
                    fewest[c] = least;
                }
            }
            for (int c = 0; c < states; c++) {
                fewest[c] = fewest[c] < far ? fewest[c] : byMoves ? EVER : NONE;
            }
        }

        int leastBeside(int[] row, int c, int i) {
            int step = power(told.v, i);
            int least = Integer.MAX_VALUE - 1;
            for (int v = 0, other = c - value[c][i] * step; v < told.v; v++, other += step) {
                least = Math.min(least, row[other]);
            }
            return least;
        }

        int movers(int daemon, int c, int last, int draw) {
            List<Integer> may = new ArrayList<>();
            for (int k = 1; k <= told.n; k++) {
                int i = daemon == 1 && last != NONE ? (last + k) % told.n : k - 1;
                if ((tokens[c] >> i & 1) == 1) {
                    may.add(i);
                }
            }
            if (may.isEmpty() || daemon == 2) {
                return tokens[c];
            }
            if (daemon == 4) {
                int chosen = may.get(0);
                for (int i : may) {
                    chosen = rank(worst[behind[c][i]]) > rank(worst[behind[c][chosen]]) ? i : chosen;
                }
                return 1 << chosen;
            }
            return 1 << may.get(daemon == 3 ? draw % may.size() : 0);
        }

        int step(int c, int movers) {
            int then = c;
            for (int i = 0; i < told.n; i++) {
                then += (movers >> i & 1) == 1 ? behind[c][i] - c : 0;
            }
            return then;
        }
    }

    static int rank(int worst) {
        return worst == EVER ? Integer.MAX_VALUE : worst;
    }

    static int draw(int z, int k) {
        long x = 7919L * z + 6151L * k + 1;
        return (int) (x * x % 65521);
    }

    /** One object, asked about one net; the first answer that is not due is kept. */
    static final class Look {
        final Told told;
        final Random random;
        final HomingNets x = new HomingNets();
        Moves m;
        int now = 0;
        int last = NONE;
        String first = null;

        Look(Told told, Random random) {
            this.told = told;
            this.random = random;
        }

        void due(String what, int got, int want) {
            if (got != want && first == null) {
                first = told.text + " in " + now + ", last " + last + ": " + what + " answered " + got + ", due is " + want;
            }
        }

        String firstWrong() {
            m = new Moves(told);
            for (int k = 0; k < told.text.length(); k++) {
                x.write(told.text.charAt(k));
            }
            due("fault", x.fault(), NONE);
            due("lay", x.lay(), m.states);
            int[] counts = {told.t, told.n, told.v, told.wires, m.states, 0, told.text.length(), NONE};
            for (int what = 0; what < counts.length; what++) {
                due("count " + what, x.count(what), counts[what]);
            }
            lookAtAll();
            lookWithin();
            for (int k = 0; k < STARTS; k++) {
                int code = random.nextInt(m.states);
                due("turn " + code, x.turn(code), code == now ? NO : now);
                now = code;
                lookAtState();
                lookAhead();
                runOn();
            }
            return first;
        }

        void lookAtAll() {
            int legal = 0, ever = 0, most = NONE, lowest = NONE, out = 0, sum = 0, best = NONE;
            for (int c = 0; c < m.states; c++) {
                legal += m.legal(c) ? 1 : 0;
                ever += m.worst[c] == EVER ? 1 : 0;
                sum += m.worst[c] == EVER ? 0 : m.worst[c];
                best = m.best[c] == EVER ? best : Math.max(best, m.best[c]);
                if (m.worst[c] != EVER && m.worst[c] > most) {
                    most = m.worst[c];
                    lowest = c;
                }
                for (int i = 0; i < told.n; i++) {
                    out += m.legal(c) && (m.tokens[c] >> i & 1) == 1 && !m.legal(m.behind[c][i]) ? 1 : 0;
                }
            }
            int[] want = {legal, ever, most, lowest, out, sum, best};
            for (int what = 0; what < want.length; what++) {
                due("all " + what, x.all(what), want[what]);
            }
        }

        void lookWithin() {
            for (int k = 0; k <= told.n; k++) {
                int many = 0, most = 0;
                for (int c = 0; c < m.states; c++) {
                    if (m.hits[c] != NONE && m.hits[c] <= k) {
                        many++;
                        most = rank(m.worst[c]) > rank(most) ? m.worst[c] : most;
                    }
                }
                due("within " + k + " 0", x.within(k, 0), many == 0 ? NONE : most);
                due("within " + k + " 1", x.within(k, 1), many == 0 ? NONE : many);
            }
        }

        void lookAtState() {
            int i = random.nextInt(told.n), other = (i + 1 + random.nextInt(told.n - 1)) % told.n;
            due("value " + i, x.value(i), m.value[now][i]);
            due("tokens", x.tokens(), m.tokens[now]);
            due("legal", x.legal(), m.legal(now) ? 1 : 0);
            due("may " + i, x.may(i), m.rule(now, i));
            due("becomes " + i, x.becomes(i), m.rule(now, i) == 0 ? NONE : m.value[m.behind[now][i]][i]);
            due("mate " + i, x.mate(i), mateOf(i));
            boolean ring = told.t == 1 && ((i + 1) % told.n == other || (other + 1) % told.n == i);
            due("wired " + i + " " + other, x.wired(i, other), told.wire[i][other] || ring ? 1 : 0);
            int code = random.nextInt(m.states);
            due("worst of " + code, x.state(code, 0), m.worst[code]);
            due("best of " + code, x.state(code, 1), m.best[code]);
            due("hits of " + code, x.state(code, 2), m.hits[code]);
            due("legal of " + code, x.state(code, 3), m.legal(code) ? 1 : 0);
        }

        int mateOf(int i) {
            int[] s = m.value[now];
            if (told.t == 2) {
                boolean both = s[i] > 0 && told.wire[i][s[i] - 1] && s[s[i] - 1] == i + 1;
                return both ? s[i] - 1 : NONE;
            }
            for (int j = 0; told.t == 3 && j < told.n; j++) {
                if (told.wire[i][j] && s[j] == s[i] - 1) {
                    return j;
                }
            }
            return told.t == 3 ? NONE : NO;
        }

        void lookAhead() {
            for (int daemon : new int[] {0, 1, 2, 4}) {
                due("next " + daemon, x.next(daemon), m.movers(daemon, now, last, 0));
            }
            for (int daemon : new int[] {0, 2, 4}) {
                List<Integer> way = new ArrayList<>();
                int c = now;
                for (; !way.contains(c); c = m.step(c, m.movers(daemon, c, NONE, 0))) {
                    way.add(c);
                }
                due("loop " + daemon + " 0", x.loop(daemon, 0), way.indexOf(c));
                due("loop " + daemon + " 1", x.loop(daemon, 1), way.size() - way.indexOf(c));
            }
            lookAtStorm(random.nextInt(3), random.nextInt(10000), 1 + random.nextInt(200));
        }

        void lookAtStorm(int daemon, int z, int n) {
            int c = now, mover = last, legal = 0, row = 0, most = 0;
            for (int k = 0; k < n; k++) {
                int draw = draw(z, k);
                if (draw % 8 == 0) {
                    int i = draw / 8 % told.n;
                    c += (draw / 64 % told.v - m.value[c][i]) * power(told.v, i);
                } else if (m.tokens[c] != 0) {
                    int movers = m.movers(daemon, c, mover, 0);
                    mover = daemon == 1 ? Integer.numberOfTrailingZeros(movers) : mover;
                    c = m.step(c, movers);
                }
                legal += m.legal(c) ? 1 : 0;
                row = m.legal(c) ? 0 : row + 1;
                most = Math.max(most, row);
            }
            String storm = "storm " + daemon + " " + z + " " + n + " ";
            due(storm + 0, x.storm(daemon, z, n, 0), legal);
            due(storm + 1, x.storm(daemon, z, n, 1), c);
            due(storm + 2, x.storm(daemon, z, n, 2), most);
        }

        void runOn() {
            int daemon = random.nextInt(5), z = random.nextInt(10000), n = 1 + random.nextInt(random.nextBoolean() ? 3 : 300);
            int c = now, mover = last, k = 0;
            for (; k < n && !m.legal(c) && m.tokens[c] != 0; k++) {
                int movers = m.movers(daemon, c, mover, draw(z, k));
                mover = daemon == 1 ? Integer.numberOfTrailingZeros(movers) : mover;
                c = m.step(c, movers);
            }
            int changes = x.count(5);
            due("run " + daemon + " " + z + " " + n, x.run(daemon, z, n), k);
            due("code behind the run", x.code(), c);
            due("last behind the run", x.count(7), mover);
            if (k > 0 && random.nextInt(3) == 0) {
                due("undo", x.undo(), Math.min(changes, 5));
                due("code behind undo", x.code(), now);
                due("last behind undo", x.count(7), last);
            } else {
                now = c;
                last = mover;
            }
        }
    }
}
