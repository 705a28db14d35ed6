import java.math.BigInteger;
import java.util.ArrayDeque;
import java.util.ArrayList;
import java.util.Arrays;
import java.util.Deque;
import java.util.HashMap;
import java.util.List;
import java.util.Map;
import java.util.Random;
import java.util.regex.Matcher;
import java.util.regex.Pattern;

/**
 * Plays random calls on HomingNets and on a model that was written from the document by itself,
 * with values in rows, recursion and comparing of all pairs instead of codes and waves.
 */
public final class ModelTest {
    static final int BAD = -1, NO = -2, FULL = -3, NONE = -4, EVER = -5;
    static final int ROUNDS = 800, CALLS = 512;

    // The model's recursion goes as deep as the longest way through the states: it needs a stack of its own.
    public static void main(String[] args) throws InterruptedException {
        Thread player = new Thread(null, ModelTest::play, "player", 256L << 20);
        player.setUncaughtExceptionHandler((thread, thrown) -> {
            thrown.printStackTrace();
            System.exit(1);
        });
        player.start();
        player.join();
    }

    static void play() {
        int wrong = 0;
        Map<String, Integer> played = new HashMap<>();
        for (int seed = 0; seed < ROUNDS && wrong < 5; seed++) {
            String told = playRound(new Random(seed), played);
            if (told != null) {
                wrong++;
                System.out.println("seed " + seed + ": " + told);
            }
        }
        if (played.size() != 25) {
            wrong++;
            System.out.println("only these were played: " + played.keySet());
        }
        System.out.println(wrong == 0 ? "the model agrees" : "the model does not agree");
        System.exit(wrong == 0 ? 0 : 1);
    }

    static String playRound(Random random, Map<String, Integer> played) {
        HomingNets object = new HomingNets();
        Model model = new Model();
        Deque<Integer> letters = new ArrayDeque<>();
        played.merge("new", 1, Integer::sum);
        for (int k = 0; k < CALLS - 3; k++) {
            if (letters.isEmpty() && random.nextInt(25) == 0) {
                String text = Texts.any(random);
                if (random.nextInt(6) != 0) {
                    letters.add(-1);
                }
                text.chars().forEach(letters::add);
                letters.add(random.nextInt(4) == 0 ? -3 : -2);
            }
            Call call = letters.isEmpty() ? Call.any(random, model) : Call.ofLetter(letters.poll());
            played.merge(call.name, 1, Integer::sum);
            int got = call.on(object);
            int due = call.on(model);
            if (got != due) {
                return "call " + k + " " + call + " answered " + got + ", the model " + due + " in " + model;
            }
            if (!call.name.equals("write")) {
                // Each look is a call too, and only the first 512 are promised.
                k++;
                if (object.code() != model.code()) {
                    return "call " + k + " " + call + " left another state than in the model " + model;
                }
            }
        }
        boolean same = object.count(5) == model.count(5) && object.count(7) == model.count(7);
        return same ? null : "another past than in the model " + model;
    }

    static final class Texts {
        static final String[] HEADS = heads();

        static String[] heads() {
            List<String> all = new ArrayList<>();
            for (int t = 1; t <= 4; t++) {
                for (int n = 2; n <= 6; n++) {
                    for (int v = 2; v <= 7; v++) {
                        if (Model.isNet(t, n, v)) {
                            all.add("g" + t + n + v + ";");
                        }
                    }
                }
            }
            return all.toArray(new String[0]);
        }

        static String any(Random random) {
            String head = HEADS[random.nextInt(HEADS.length)];
            int t = head.charAt(1) - '0', n = head.charAt(2) - '0', v = head.charAt(3) - '0';
            StringBuilder text = new StringBuilder(head);
            int thick = random.nextInt(4) + 1;
            for (int a = 0; t != 1 && a < n; a++) {
                for (int b = a + 1; b < n; b++) {
                    if (random.nextInt(4) < thick) {
                        text.append(random.nextBoolean() ? "e" + a + b + ";" : "e" + b + a + ";");
                    }
                }
            }
            for (int k = random.nextInt(8); k > 0; k--) {
                text.append("x").append(random.nextInt(n)).append(random.nextInt(v)).append(";");
            }
            if (random.nextInt(3) == 0) {
                spoil(random, text);
            }
            return text.toString();
        }

        static void spoil(Random random, StringBuilder text) {
            int place = random.nextInt(text.length());
            String signs = "gex;0123456789 ~";
            char sign = signs.charAt(random.nextInt(signs.length()));
            switch (random.nextInt(4)) {
                case 0 -> text.setCharAt(place, sign);
                case 1 -> text.deleteCharAt(place);
                case 2 -> text.insert(place, sign);
                default -> text.append(random.nextBoolean() ? "e" : "x").append(random.nextInt(8)).append(random.nextInt(8)).append(";");
            }
        }
    }

    static final class Call {
        final String name;
        final int[] a;

        Call(String name, int... a) {
            this.name = name;
            this.a = a;
        }

        static Call ofLetter(int letter) {
            return switch (letter) {
                case -1 -> new Call("wipe");
                case -2 -> new Call("lay");
                case -3 -> new Call("fault");
                default -> new Call("write", letter);
            };
        }

        static Call any(Random r, Model m) {
            switch (r.nextInt(27)) {
                case 0: return r.nextInt(4) == 0 ? new Call("lay") : new Call("count", num(r, 8));
                case 1: return r.nextInt(9) == 0 ? new Call("wipe") : new Call("fault");
                case 2: return new Call("write", r.nextInt(4) == 0 ? r.nextInt() : r.nextInt(100) + 30);
                case 3: return new Call("value", num(r, m.n));
                case 4: case 5: return new Call("hit", num(r, m.n), num(r, m.v));
                case 6: return new Call("code");
                case 7: case 8: return new Call("turn", num(r, m.states()));
                case 9: return new Call("wired", num(r, m.n), num(r, m.n));
                case 10: return new Call("may", num(r, m.n));
                case 11: return new Call("becomes", num(r, m.n));
                case 12: case 13: return new Call("move", num(r, m.n));
                case 14: return new Call("tokens");
                case 15: return new Call("legal");
                case 16: return new Call("mate", num(r, m.n));
                case 17: return new Call("undo");
                case 18: case 19: case 20: return new Call("run", num(r, 5), num(r, 10000), num(r, r.nextBoolean() ? 4 : 301));
                case 21: return new Call("next", num(r, 5));
                case 22: return new Call("loop", num(r, 5), num(r, 2));
                case 23: return new Call("storm", num(r, 3), num(r, 10000), num(r, 201), num(r, 3));
                case 24: return new Call("state", num(r, m.states()), num(r, 4));
                case 25: return new Call("all", num(r, 7));
                default: return new Call("within", num(r, m.n + 1), num(r, 2));
            }
        }

        static int num(Random r, int many) {
            switch (r.nextInt(40)) {
                case 0: return -1;
                case 1: return many;
                case 2: return r.nextInt();
                case 3: return r.nextBoolean() ? Integer.MIN_VALUE : Integer.MAX_VALUE;
                default: return r.nextInt(many);
            }
        }

        int on(HomingNets x) {
            switch (name) {
                case "write": return x.write(a[0]);
                case "wipe": return x.wipe();
                case "fault": return x.fault();
                case "lay": return x.lay();
                case "value": return x.value(a[0]);
                case "hit": return x.hit(a[0], a[1]);
                case "code": return x.code();
                case "turn": return x.turn(a[0]);
                case "wired": return x.wired(a[0], a[1]);
                case "may": return x.may(a[0]);
                case "becomes": return x.becomes(a[0]);
                case "move": return x.move(a[0]);
                case "tokens": return x.tokens();
                case "legal": return x.legal();
                case "mate": return x.mate(a[0]);
                case "undo": return x.undo();
                case "run": return x.run(a[0], a[1], a[2]);
                case "next": return x.next(a[0]);
                case "loop": return x.loop(a[0], a[1]);
                case "storm": return x.storm(a[0], a[1], a[2], a[3]);
                case "state": return x.state(a[0], a[1]);
                case "all": return x.all(a[0]);
                case "within": return x.within(a[0], a[1]);
                default: return x.count(a[0]);
            }
        }

        int on(Model x) {
            switch (name) {
                case "write": return x.write(a[0]);
                case "wipe": return x.wipe();
                case "fault": return x.fault();
                case "lay": return x.lay();
                case "value": return x.isMachine(a[0]) ? x.values[a[0]] : BAD;
                case "hit": return x.hit(a[0], a[1]);
                case "code": return x.code();
                case "turn": return x.turn(a[0]);
                case "wired": return x.wired(a[0], a[1]);
                case "may": return x.isMachine(a[0]) ? x.rule(x.values, a[0])[0] : BAD;
                case "becomes": return x.becomes(a[0]);
                case "move": return x.move(a[0]);
                case "tokens": return x.bits(x.whoMay(x.values));
                case "legal": return x.isLegal(x.values) ? 1 : 0;
                case "mate": return x.mate(a[0]);
                case "undo": return x.undo();
                case "run": return x.run(a[0], a[1], a[2]);
                case "next": return x.next(a[0]);
                case "loop": return x.loop(a[0], a[1]);
                case "storm": return x.storm(a[0], a[1], a[2], a[3]);
                case "state": return x.state(a[0], a[1]);
                case "all": return x.all(a[0]);
                case "within": return x.within(a[0], a[1]);
                default: return x.count(a[0]);
            }
        }

        @Override
        public String toString() {
            return name + Arrays.toString(a);
        }
    }

    /** The document again, in its own words. */
    static final class Model {
        String text = "";
        int t, n, v;
        boolean[][] wire = new boolean[6][6];
        int[] values;
        int last;
        final Deque<int[]> past = new ArrayDeque<>();
        int[] worst;
        int[] best;
        int[] hits;

        Model() {
            text = "g145;x03;x11;x24;x32;";
            lay();
            text = "";
        }

        @Override
        public String toString() {
            return t + "/" + n + "/" + v + " " + Arrays.deepToString(wire) + " " + Arrays.toString(values) + " last " + last + " text " + text;
        }

        static boolean isNet(int t, int n, int v) {
            return t >= 1 && t <= 4 && n >= 2 && n <= 6 && v >= 2 && v <= 7 && Math.pow(v, n) <= 4096
                    && (t != 2 || v == n + 1) && (t != 3 || v >= n);
        }

        int write(int letter) {
            if (letter < 32 || letter > 126) {
                return BAD;
            }
            if (text.length() == 200) {
                return FULL;
            }
            text += (char) letter;
            return text.length();
        }

        int wipe() {
            int was = text.length();
            text = "";
            return was;
        }

        static final Pattern ITEM = Pattern.compile("(g)([0-9])([0-9])([0-9]);|([ex])([0-9])([0-9]);");

        int fault() {
            return read(new boolean[6][6], new int[6], new int[3]);
        }

        int read(boolean[][] w, int[] val, int[] head) {
            Matcher item = ITEM.matcher(text);
            for (int place = 0; place < text.length(); place = item.end()) {
                item.region(place, text.length());
                if (!item.lookingAt()) {
                    return place;
                }
                if ((place == 0) != (item.group(1) != null)) {
                    return place;
                }
                if (place == 0) {
                    for (int k = 0; k < 3; k++) {
                        head[k] = Integer.parseInt(item.group(k + 2));
                    }
                    if (!isNet(head[0], head[1], head[2])) {
                        return place;
                    }
                    continue;
                }
                int a = Integer.parseInt(item.group(6)), b = Integer.parseInt(item.group(7));
                if (item.group(5).equals("x")) {
                    if (a >= head[1] || b >= head[2]) {
                        return place;
                    }
                    val[a] = b;
                } else {
                    if (head[0] == 1 || a >= head[1] || b >= head[1] || a == b || w[a][b]) {
                        return place;
                    }
                    w[a][b] = true;
                    w[b][a] = true;
                }
            }
            return NONE;
        }

        int lay() {
            boolean[][] w = new boolean[6][6];
            int[] val = new int[6];
            int[] head = new int[3];
            if (text.isEmpty() || read(w, val, head) != NONE) {
                return NO;
            }
            for (int i = 0; head[0] == 4 && i < 6; i++) {
                int many = 0;
                for (int j = 0; j < 6; j++) {
                    many += w[i][j] ? 1 : 0;
                }
                if (many >= head[2]) {
                    return NO;
                }
            }
            t = head[0];
            n = head[1];
            v = head[2];
            wire = w;
            values = Arrays.copyOf(val, n);
            last = NONE;
            past.clear();
            worst = null;
            return states();
        }

        int states() {
            return (int) Math.round(Math.pow(v, n));
        }

        int codeOf(int[] s) {
            int code = 0;
            for (int i = n - 1; i >= 0; i--) {
                code = code * v + s[i];
            }
            return code;
        }

        int[] stateOf(int code) {
            int[] s = new int[n];
            for (int i = 0; i < n; i++) {
                s[i] = code % v;
                code /= v;
            }
            return s;
        }

        int code() {
            return codeOf(values);
        }

        boolean isMachine(int i) {
            return 0 <= i && i < n;
        }

        void change() {
            int[] kept = Arrays.copyOf(values, n + 1);
            kept[n] = last;
            past.addLast(kept);
            if (past.size() > 6) {
                past.removeFirst();
            }
        }

        int undo() {
            if (past.isEmpty()) {
                return NO;
            }
            int[] kept = past.removeLast();
            values = Arrays.copyOf(kept, n);
            last = kept[n];
            return past.size();
        }

        int hit(int i, int x) {
            if (!isMachine(i) || x < 0 || x >= v) {
                return BAD;
            }
            if (values[i] == x) {
                return NO;
            }
            change();
            int was = values[i];
            values[i] = x;
            return was;
        }

        int turn(int code) {
            if (code < 0 || code >= states()) {
                return BAD;
            }
            int was = code();
            if (was == code) {
                return NO;
            }
            change();
            values = stateOf(code);
            return was;
        }

        int wired(int a, int b) {
            if (!isMachine(a) || !isMachine(b) || a == b) {
                return BAD;
            }
            if (t == 1) {
                return (a + 1) % n == b || (b + 1) % n == a ? 1 : 0;
            }
            return wire[a][b] ? 1 : 0;
        }

        /** The rule, and the value behind. */
        int[] rule(int[] s, int i) {
            int[] no = {0, s[i]};
            if (t == 1) {
                if (i == 0) {
                    return s[0] == s[n - 1] ? new int[] {1, (s[0] + 1) % v} : no;
                }
                return s[i] != s[i - 1] ? new int[] {1, s[i - 1]} : no;
            }
            List<Integer> near = new ArrayList<>();
            for (int j = 0; j < n; j++) {
                if (wire[i][j]) {
                    near.add(j);
                }
            }
            if (t == 2) {
                if (s[i] == 0) {
                    for (int j : near) {
                        if (s[j] == i + 1) {
                            return new int[] {1, j + 1};
                        }
                    }
                    for (int j : near) {
                        if (s[j] == 0) {
                            return new int[] {2, j + 1};
                        }
                    }
                    return no;
                }
                int at = s[i] - 1;
                boolean away = at == i || !near.contains(at) || (s[at] != 0 && s[at] != i + 1);
                return away ? new int[] {3, 0} : no;
            }
            if (t == 3) {
                int want = i == 0 ? 0 : near.isEmpty() ? v - 1
                        : Math.min(v - 1, 1 + near.stream().mapToInt(j -> s[j]).min().getAsInt());
                return s[i] == want ? no : new int[] {1, want};
            }
            if (near.stream().noneMatch(j -> s[j] == s[i])) {
                return no;
            }
            int c = 0;
            while (taken(near, s, c)) {
                c++;
            }
            return new int[] {1, c};
        }

        static boolean taken(List<Integer> near, int[] s, int c) {
            return near.stream().anyMatch(j -> s[j] == c);
        }

        List<Integer> whoMay(int[] s) {
            List<Integer> who = new ArrayList<>();
            for (int i = 0; i < n; i++) {
                if (rule(s, i)[0] != 0) {
                    who.add(i);
                }
            }
            return who;
        }

        int bits(List<Integer> who) {
            return who.stream().mapToInt(i -> 1 << i).sum();
        }

        boolean isLegal(int[] s) {
            return whoMay(s).size() == (t == 1 ? 1 : 0);
        }

        int becomes(int i) {
            if (!isMachine(i)) {
                return BAD;
            }
            int[] r = rule(values, i);
            return r[0] == 0 ? NONE : r[1];
        }

        int move(int i) {
            if (!isMachine(i)) {
                return BAD;
            }
            int[] r = rule(values, i);
            if (r[0] == 0) {
                return NO;
            }
            change();
            values[i] = r[1];
            return r[1];
        }

        int mate(int i) {
            if (!isMachine(i)) {
                return BAD;
            }
            if (t != 2 && t != 3) {
                return NO;
            }
            for (int j = 0; j < n; j++) {
                if (wire[i][j] && (t == 2 ? values[i] == j + 1 && values[j] == i + 1 : values[j] == values[i] - 1)) {
                    return j;
                }
            }
            return NONE;
        }

        static int draw(int z, int k) {
            BigInteger x = BigInteger.valueOf(7919).multiply(BigInteger.valueOf(z))
                    .add(BigInteger.valueOf(6151).multiply(BigInteger.valueOf(k))).add(BigInteger.ONE);
            return x.multiply(x).mod(BigInteger.valueOf(65521)).intValue();
        }

        int[] behind(int[] s, List<Integer> movers) {
            int[] b = s.clone();
            for (int i : movers) {
                b[i] = rule(s, i)[1];
            }
            return b;
        }

        List<Integer> choose(int daemon, int[] s, int lastOne, int drawn) {
            List<Integer> who = whoMay(s);
            if (who.isEmpty() || daemon == 2) {
                return who;
            }
            if (daemon == 1 && lastOne != NONE) {
                for (int k = 1; k <= n; k++) {
                    if (who.contains((lastOne + k) % n)) {
                        return List.of((lastOne + k) % n);
                    }
                }
            }
            if (daemon == 3) {
                return List.of(who.get(drawn % who.size()));
            }
            if (daemon == 4) {
                survey();
                int top = who.get(0);
                for (int i : who) {
                    if (rank(worst[codeOf(behind(s, List.of(i)))]) > rank(worst[codeOf(behind(s, List.of(top)))])) {
                        top = i;
                    }
                }
                return List.of(top);
            }
            return List.of(who.get(0));
        }

        static long rank(int w) {
            return w == EVER ? Long.MAX_VALUE : w;
        }

        int run(int daemon, int z, int steps) {
            if (daemon < 0 || daemon > 4 || z < 0 || z > 9999 || steps < 1 || steps > 300) {
                return BAD;
            }
            int k = 0;
            while (k < steps && !isLegal(values) && !whoMay(values).isEmpty()) {
                if (k == 0) {
                    change();
                }
                List<Integer> movers = choose(daemon, values, last, draw(z, k));
                values = behind(values, movers);
                if (daemon == 1) {
                    last = movers.get(0);
                }
                k++;
            }
            return k;
        }

        int next(int daemon) {
            return daemon < 0 || daemon == 3 || daemon > 4 ? BAD : bits(choose(daemon, values, last, 0));
        }

        int loop(int daemon, int what) {
            if (daemon != 0 && daemon != 2 && daemon != 4 || what < 0 || what > 1) {
                return BAD;
            }
            List<Integer> met = new ArrayList<>();
            int[] s = values;
            while (!met.contains(codeOf(s))) {
                met.add(codeOf(s));
                s = behind(s, choose(daemon, s, NONE, 0));
            }
            int first = met.indexOf(codeOf(s));
            return what == 0 ? first : met.size() - first;
        }

        int storm(int daemon, int z, int times, int what) {
            if (daemon < 0 || daemon > 2 || z < 0 || z > 9999 || times < 1 || times > 200 || what < 0 || what > 2) {
                return BAD;
            }
            int[] s = values.clone();
            int mover = last;
            StringBuilder story = new StringBuilder();
            for (int k = 0; k < times; k++) {
                int drawn = draw(z, k);
                if (drawn % 8 == 0) {
                    s[drawn / 8 % n] = drawn / 64 % v;
                } else if (!whoMay(s).isEmpty()) {
                    List<Integer> movers = choose(daemon, s, mover, drawn);
                    s = behind(s, movers);
                    mover = daemon == 1 ? movers.get(0) : mover;
                }
                story.append(isLegal(s) ? 'L' : '-');
            }
            if (what == 0) {
                return (int) story.chars().filter(c -> c == 'L').count();
            }
            if (what == 1) {
                return codeOf(s);
            }
            return Arrays.stream(story.toString().split("L")).mapToInt(String::length).max().orElse(0);
        }

        void survey() {
            if (worst != null) {
                return;
            }
            int all = states();
            worst = new int[all];
            best = new int[all];
            hits = new int[all];
            boolean[] legal = new boolean[all];
            List<int[]> legalOnes = new ArrayList<>();
            for (int c = 0; c < all; c++) {
                legal[c] = isLegal(stateOf(c));
                if (legal[c]) {
                    legalOnes.add(stateOf(c));
                }
            }
            int[] seen = new int[all];
            for (int c = 0; c < all; c++) {
                deepen(c, seen, legal);
                best[c] = legal[c] ? 0 : EVER;
                hits[c] = nearest(stateOf(c), legalOnes);
            }
            boolean changed = true;
            while (changed) {
                changed = false;
                for (int c = 0; c < all; c++) {
                    for (int i : whoMay(stateOf(c))) {
                        int b = codeOf(behind(stateOf(c), List.of(i)));
                        if (best[b] != EVER && (best[c] == EVER || best[c] > best[b] + 1)) {
                            best[c] = best[b] + 1;
                            changed = true;
                        }
                    }
                }
            }
        }

        void deepen(int c, int[] seen, boolean[] legal) {
            if (seen[c] != 0) {
                return;
            }
            seen[c] = 1;
            int most = 0;
            if (!legal[c]) {
                int[] s = stateOf(c);
                for (int i : whoMay(s)) {
                    int b = codeOf(behind(s, List.of(i)));
                    deepen(b, seen, legal);
                    boolean endless = seen[b] == 1 || worst[b] == EVER;
                    most = most == EVER || endless ? EVER : Math.max(most, worst[b] + 1);
                }
            }
            worst[c] = most;
            seen[c] = 2;
        }

        int nearest(int[] s, List<int[]> legalOnes) {
            int least = NONE;
            for (int[] l : legalOnes) {
                int far = 0;
                for (int i = 0; i < n; i++) {
                    far += l[i] != s[i] ? 1 : 0;
                }
                least = least == NONE ? far : Math.min(least, far);
            }
            return least;
        }

        int state(int c, int what) {
            if (c < 0 || c >= states() || what < 0 || what > 3) {
                return BAD;
            }
            survey();
            return what == 0 ? worst[c] : what == 1 ? best[c] : what == 2 ? hits[c] : isLegal(stateOf(c)) ? 1 : 0;
        }

        int all(int what) {
            survey();
            switch (what) {
                case 0: return (int) Arrays.stream(worst).filter(w -> w == 0).count();
                case 1: return (int) Arrays.stream(worst).filter(w -> w == EVER).count();
                case 2: return Arrays.stream(worst).filter(w -> w != EVER).max().orElse(NONE);
                case 3:
                    for (int c = 0; c < worst.length; c++) {
                        if (worst[c] == all(2)) {
                            return c;
                        }
                    }
                    return NONE;
                case 4:
                    int out = 0;
                    for (int c = 0; c < worst.length; c++) {
                        for (int i : whoMay(stateOf(c))) {
                            out += worst[c] == 0 && !isLegal(behind(stateOf(c), List.of(i))) ? 1 : 0;
                        }
                    }
                    return out;
                case 5: return Arrays.stream(worst).filter(w -> w != EVER).sum();
                case 6: return Arrays.stream(best).filter(w -> w != EVER).max().orElse(NONE);
                default: return BAD;
            }
        }

        int within(int k, int what) {
            if (k < 0 || k > n || what < 0 || what > 1) {
                return BAD;
            }
            survey();
            int many = 0;
            int most = 0;
            for (int c = 0; c < hits.length; c++) {
                if (hits[c] != NONE && hits[c] <= k) {
                    many++;
                    most = rank(worst[c]) > rank(most) ? worst[c] : most;
                }
            }
            return many == 0 ? NONE : what == 0 ? most : many;
        }

        int count(int what) {
            int wires = 0;
            for (boolean[] row : wire) {
                for (boolean w : row) {
                    wires += w ? 1 : 0;
                }
            }
            int[] answers = {t, n, v, wires / 2, states(), past.size(), text.length(), last};
            return what >= 0 && what < 8 ? answers[what] : BAD;
        }
    }
}
