import java.math.BigInteger;

/** Each promise of the document by answers worked out by hand: ordinary, at the edges, and wrong inputs. */
public final class PromisesTest {
    static final int BAD = -1, NO = -2, FULL = -3, NONE = -4, EVER = -5;
    static final int LEAST = Integer.MIN_VALUE, MOST = Integer.MAX_VALUE;
    static int wrong = 0;
    static int looked = 0;

    public static void main(String[] args) {
        constants();
        newObject();
        write();
        wipe();
        fault();
        lay();
        value();
        hit();
        code();
        turn();
        wired();
        mayOfCounters();
        mayOfPointers();
        mayOfDistances();
        mayOfColours();
        move();
        tokensAndLegal();
        mate();
        undo();
        run();
        runDrawn();
        runInRing();
        runCruel();
        next();
        loop();
        storm();
        state();
        stateForEver();
        all();
        allForEver();
        within();
        count();
        System.out.println(looked + " answers looked at, " + wrong + " wrong");
        System.exit(wrong == 0 ? 0 : 1);
    }

    static void due(String what, int got, int want) {
        looked++;
        if (got != want) {
            wrong++;
            System.out.println(what + ": answered " + got + ", due is " + want);
        }
    }

    static void tell(HomingNets x, String text) {
        x.wipe();
        for (int k = 0; k < text.length(); k++) {
            x.write(text.charAt(k));
        }
    }

    static HomingNets laid(String text) {
        HomingNets x = new HomingNets();
        tell(x, text);
        looked++;
        if (x.lay() < 0) {
            wrong++;
            System.out.println(text + " was not laid");
        }
        return x;
    }

    static void values(String what, HomingNets x, int... want) {
        for (int i = 0; i < want.length; i++) {
            due(what + ": value " + i, x.value(i), want[i]);
        }
        due(what + ": as many", x.count(1), want.length);
    }

    static void counts(String what, HomingNets x, int... want) {
        for (int k = 0; k < want.length; k++) {
            due(what + ": count " + k, x.count(k), want[k]);
        }
    }

    static void constants() {
        due("BAD", HomingNets.BAD, -1);
        due("NO", HomingNets.NO, -2);
        due("FULL", HomingNets.FULL, -3);
        due("NONE", HomingNets.NONE, -4);
        due("EVER", HomingNets.EVER, -5);
    }

    // Promise 1
    static void newObject() {
        HomingNets x = new HomingNets();
        values("new", x, 3, 1, 4, 2);
        counts("new", x, 1, 4, 5, 0, 625, 0, 0, NONE);
        due("new: fault", x.fault(), NONE);
        due("new: lay", x.lay(), NO);
        due("new: undo", x.undo(), NO);
    }

    // Promise 2
    static void write() {
        HomingNets x = new HomingNets();
        due("write 31", x.write(31), BAD);
        due("write 127", x.write(127), BAD);
        due("write -1", x.write(-1), BAD);
        due("write least", x.write(LEAST), BAD);
        due("write most", x.write(MOST), BAD);
        due("BAD ones are not behind the text", x.count(6), 0);
        due("write 32", x.write(32), 1);
        due("write 126", x.write(126), 2);
        for (int k = 3; k <= 200; k++) {
            due("write on", x.write('x'), k);
        }
        due("write at 200", x.write('x'), FULL);
        due("BAD ahead of FULL", x.write(127), BAD);
        due("length", x.count(6), 200);
        // All 200 letters are read: g and 48 values are 197, three letters more are an item that has no end.
        StringBuilder text = new StringBuilder("g145;");
        for (int k = 0; k < 48; k++) {
            text.append("x0").append(k % 5).append(';');
        }
        tell(x, text.toString());
        due("197 letters", x.count(6), 197);
        due("197 letters: fault", x.fault(), NONE);
        x.write('x');
        x.write('0');
        due("200 letters", x.write('1'), 200);
        due("the ; is too much", x.write(';'), FULL);
        due("200 letters: fault", x.fault(), 197);
        due("200 letters: lay", x.lay(), NO);
    }

    // Promise 3
    static void wipe() {
        HomingNets x = new HomingNets();
        due("wipe nothing", x.wipe(), 0);
        tell(x, "g122;x01;");
        due("lay", x.lay(), 4);
        due("wipe nine", x.wipe(), 9);
        due("wiped", x.count(6), 0);
        due("wipe again", x.wipe(), 0);
        values("what is laid stays", x, 1, 0);
    }

    static void faultOf(String text, int want) {
        HomingNets x = new HomingNets();
        tell(x, text);
        due("fault of " + text, x.fault(), want);
        if (want != NONE) {
            due("lay of " + text, x.lay(), NO);
            values("nothing is laid by " + text, x, 3, 1, 4, 2);
        }
    }

    // Promise 4
    static void fault() {
        String[] nets = {"122", "167", "137", "144", "148", "155", "156", "164", "165", "022", "522", "112", "172", "121", "128",
            "223", "222", "234", "245", "244", "246", "256", "267", "322", "323", "332", "333", "337", "343", "347", "348",
            "354", "355", "356", "366", "422", "427", "464", "465", "900"};
        String good = " 122 137 144 155 164 223 234 245 322 323 333 337 347 355 422 427 464 ";
        for (String net : nets) {
            boolean so = good.contains(" " + net + " ");
            faultOf("g" + net + ";", so ? NONE : 0);
        }
        faultOf("", NONE);
        faultOf("g", 0);
        faultOf("g122", 0);
        faultOf("g12;", 0);
        faultOf("g1222;", 0);
        faultOf("G122;", 0);
        faultOf(" g122;", 0);
        faultOf("g 22;", 0);
        faultOf("g12:;", 0);
        faultOf("g/22;", 0);
        faultOf(";", 0);
        faultOf("e01;", 0);
        faultOf("x00;g122;", 0);
        faultOf("g122;g122;", 5);
        faultOf("g122;;", 5);
        faultOf("g122; ", 5);
        faultOf("g122;x0", 5);
        faultOf("g122;x00", 5);
        faultOf("g122;x0;", 5);
        faultOf("g122;x000;", 5);
        faultOf("g122;x00:", 5);
        faultOf("g122;x00;", NONE);
        faultOf("g122;x11;", NONE);
        faultOf("g122;x20;", 5);
        faultOf("g122;x02;", 5);
        faultOf("g122;x00;x01;x00;y00;x02;", 17);
        faultOf("g122;X00;", 5);
        faultOf("g122;e01;", 5);
        faultOf("g422;e01;", NONE);
        faultOf("g422;e0;", 5);
        faultOf("g422;e01", 5);
        faultOf("g422;e011;", 5);
        faultOf("g422;e02;", 5);
        faultOf("g422;e20;", 5);
        faultOf("g422;e11;", 5);
        faultOf("g433;e01;e12;e01;", 13);
        faultOf("g433;e01;e12;e21;", 13);
        faultOf("g433;e01;x22;e12;g433;", 17);
        faultOf("g234;e01;e02;e12;", NONE);
        faultOf("g333;e10;e20;e21;x22;", NONE);
        HomingNets x = new HomingNets();
        tell(x, "g433;e01;e01;");
        due("fault changes nothing", x.fault(), 9);
        due("fault again", x.fault(), 9);
        counts("fault changes nothing", x, 1, 4, 5, 0, 625, 0, 13, NONE);
    }

    // Promise 5
    static void lay() {
        HomingNets x = new HomingNets();
        x.hit(0, 0);
        x.run(1, 0, 1);
        tell(x, "g433;e01;e12;x02;x01;x22;");
        due("lay", x.lay(), 27);
        values("the last one of each, 0 without", x, 1, 0, 2);
        counts("laid", x, 4, 3, 3, 2, 27, 0, 25, NONE);
        due("laid is not undone", x.undo(), NO);
        x.hit(0, 0);
        due("the text stays", x.lay(), 27);
        values("laid again", x, 1, 0, 2);
        due("laid again: undo", x.undo(), NO);

        x.hit(1, 1);
        x.run(1, 0, 1);
        int last = x.count(7);
        int code = x.code();
        due("two changes", x.count(5), 2);
        x.write('x');
        due("lay with a fault", x.lay(), NO);
        x.wipe();
        due("lay of nothing", x.lay(), NO);
        tell(x, "g442;e01;e02;x01;");
        due("two colours, two wires: no fault", x.fault(), NONE);
        due("two colours, two wires", x.lay(), NO);
        counts("nothing changed", x, 4, 3, 3, 2, 27, 2, 17, last);
        due("nothing changed: code", x.code(), code);
        due("nothing changed: wired 0 2", x.wired(0, 2), 0);
        tell(x, "g443;e01;e02;");
        due("three colours, two wires", x.lay(), 81);
        tell(x, "g443;e01;e02;e03;");
        due("three colours, three wires", x.lay(), NO);
        tell(x, "g453;e04;e14;e24;");
        due("three colours, three wires, of the last one", x.lay(), NO);
        tell(x, "g442;e01;");
        due("wires told before are none of these", x.lay(), 16);
        tell(x, "g332;");
        due("distances too few", x.lay(), NO);
        tell(x, "g333;e01;e02;e12;");
        due("distances ask no colours", x.lay(), 27);
        tell(x, "g223;e01;");
        due("pointers", x.lay(), 9);
        tell(x, "g164;");
        due("most states", x.lay(), 4096);
        tell(x, "g122;");
        due("fewest states", x.lay(), 4);
        counts("fewest states", x, 1, 2, 2, 0, 4, 0, 5, NONE);
        // Answers of all states belong to the net that is laid now, not to one before.
        HomingNets y = laid("g132;");
        due("one net", y.all(0), 6);
        tell(y, "g422;e01;");
        y.lay();
        due("another net", y.all(0), 2);
        due("another net: wires", y.count(3), 1);
        tell(y, "g422;");
        y.lay();
        due("a third net", y.all(0), 4);
    }

    // Promise 6
    static void value() {
        HomingNets x = laid("g164;x01;x53;");
        values("value", x, 1, 0, 0, 0, 0, 3);
        due("value 6", x.value(6), BAD);
        due("value -1", x.value(-1), BAD);
        due("value least", x.value(LEAST), BAD);
        due("value most", x.value(MOST), BAD);
        due("value of two", laid("g122;").value(2), BAD);
    }

    // Promise 7
    static void hit() {
        HomingNets x = new HomingNets();
        due("hit", x.hit(0, 4), 3);
        due("hit again", x.hit(0, 4), NO);
        due("hit 3", x.hit(3, 0), 2);
        values("hit", x, 4, 1, 4, 0);
        due("hit -1", x.hit(-1, 0), BAD);
        due("hit 4", x.hit(4, 0), BAD);
        due("hit by -1", x.hit(0, -1), BAD);
        due("hit by 5", x.hit(0, 5), BAD);
        due("hit by least", x.hit(0, LEAST), BAD);
        due("hit most", x.hit(MOST, 0), BAD);
        due("two changes", x.count(5), 2);
        values("BAD and NO change nothing", x, 4, 1, 4, 0);
    }

    // Promise 8
    static void code() {
        due("code at first", new HomingNets().code(), 3 + 5 + 4 * 25 + 2 * 125);
        due("code 0", laid("g133;").code(), 0);
        due("code of machine 0", laid("g133;x01;").code(), 1);
        due("code of machine 2", laid("g133;x22;").code(), 18);
        due("greatest code", laid("g122;x01;x11;").code(), 3);
    }

    // Promise 9
    static void turn() {
        HomingNets x = laid("g133;");
        due("turn", x.turn(5), 0);
        values("turned", x, 2, 1, 0);
        due("turn again", x.turn(5), NO);
        due("turn 27", x.turn(27), BAD);
        due("turn -1", x.turn(-1), BAD);
        due("turn most", x.turn(MOST), BAD);
        due("one change", x.count(5), 1);
        due("turn 26", x.turn(26), 5);
        values("turned to the greatest", x, 2, 2, 2);
        due("turn 0", x.turn(0), 26);
        values("turned to the least", x, 0, 0, 0);
        due("three changes", x.count(5), 3);
    }

    // Promise 10
    static void wired() {
        HomingNets x = laid("g155;");
        int[][] ring = {{0, 1, 0, 0, 1}, {1, 0, 1, 0, 0}, {0, 1, 0, 1, 0}, {0, 0, 1, 0, 1}, {1, 0, 0, 1, 0}};
        HomingNets y = laid("g355;e01;e31;e24;");
        int[][] wires = {{0, 1, 0, 0, 0}, {1, 0, 0, 1, 0}, {0, 0, 0, 0, 1}, {0, 1, 0, 0, 0}, {0, 0, 1, 0, 0}};
        for (int a = 0; a < 5; a++) {
            for (int b = 0; b < 5; b++) {
                due("ring " + a + " " + b, x.wired(a, b), a == b ? BAD : ring[a][b]);
                due("wires " + a + " " + b, y.wired(a, b), a == b ? BAD : wires[a][b]);
            }
        }
        due("ring of two", laid("g122;").wired(0, 1), 1);
        due("ring of two, back", laid("g122;").wired(1, 0), 1);
        due("wired -1 0", x.wired(-1, 0), BAD);
        due("wired 0 -1", x.wired(0, -1), BAD);
        due("wired 5 0", x.wired(5, 0), BAD);
        due("wired 0 5", x.wired(0, 5), BAD);
        due("wired most most", x.wired(MOST, MOST), BAD);
    }

    static void mays(String text, int[] rules, int[] behind) {
        HomingNets x = laid(text);
        int bits = 0;
        for (int i = 0; i < rules.length; i++) {
            due(text + " may " + i, x.may(i), rules[i]);
            due(text + " becomes " + i, x.becomes(i), rules[i] == 0 ? NONE : behind[i]);
            bits += rules[i] == 0 ? 0 : 1 << i;
        }
        due(text + " tokens", x.tokens(), bits);
        for (int wrongOne : new int[] {-1, rules.length, LEAST, MOST}) {
            due(text + " may " + wrongOne, x.may(wrongOne), BAD);
            due(text + " becomes " + wrongOne, x.becomes(wrongOne), BAD);
            due(text + " move " + wrongOne, x.move(wrongOne), BAD);
            due(text + " mate " + wrongOne, x.mate(wrongOne), BAD);
        }
        due(text + " nothing changed", x.count(5), 0);
    }

    // Promises 11 and 12, 14
    static void mayOfCounters() {
        mays("g143;", new int[] {1, 0, 0, 0}, new int[] {1, 0, 0, 0});
        mays("g143;x02;x12;x22;x32;", new int[] {1, 0, 0, 0}, new int[] {0, 0, 0, 0});
        mays("g143;x02;x12;x20;x31;", new int[] {0, 0, 1, 1}, new int[] {0, 0, 2, 0});
        mays("g143;x01;x10;x22;x31;", new int[] {1, 1, 1, 1}, new int[] {2, 1, 0, 2});
        mays("g122;x01;", new int[] {0, 1}, new int[] {0, 1});
    }

    static void mayOfPointers() {
        // A path 0 - 1 - 2 - 3; 1: at 0, 2: at 1, 3: at 2, 4: at 3.
        String path = "g245;e01;e12;e23;";
        mays(path, new int[] {2, 2, 2, 2}, new int[] {2, 1, 2, 3});
        mays(path + "x02;", new int[] {0, 1, 2, 2}, new int[] {0, 1, 2, 3});
        mays(path + "x02;x22;", new int[] {0, 1, 0, 0}, new int[] {0, 1, 0, 0});
        mays(path + "x12;x13;x24;x33;", new int[] {0, 3, 0, 0}, new int[] {0, 0, 0, 0});
        mays(path + "x01;", new int[] {3, 2, 2, 2}, new int[] {0, 3, 2, 3});
        mays(path + "x03;", new int[] {3, 2, 2, 2}, new int[] {0, 3, 2, 3});
        mays(path + "x02;x11;x22;x33;", new int[] {0, 0, 3, 3}, new int[] {0, 0, 0, 0});
        mays(path + "x02;x11;x23;x34;", new int[] {0, 0, 3, 3}, new int[] {0, 0, 0, 0});
        // The lowest of several that are at it; one that is not wired is none of them.
        mays("g245;e13;e12;x04;x14;x24;", new int[] {3, 0, 3, 1}, new int[] {0, 0, 0, 2});
        mays("g245;e31;e32;x14;x24;", new int[] {0, 0, 0, 1}, new int[] {0, 0, 0, 2});
        // Rule 1 goes ahead of rule 2, though who is at none is lower.
        mays("g234;e20;e21;x13;", new int[] {2, 0, 1}, new int[] {3, 0, 2});
        // Without wires nobody at none may move.
        mays("g234;", new int[] {0, 0, 0}, new int[] {0, 0, 0});
    }

    static void mayOfDistances() {
        String path = "g335;e01;e12;";
        mays(path, new int[] {0, 1, 1}, new int[] {0, 1, 1});
        mays(path + "x04;x13;x24;", new int[] {1, 1, 0}, new int[] {0, 4, 0});
        mays(path + "x01;x14;x23;", new int[] {1, 1, 1}, new int[] {0, 2, 4});
        mays(path + "x11;x22;", new int[] {0, 0, 0}, new int[] {0, 0, 0});
        // One without wires wants V - 1, machine 0 wants 0 even then.
        mays("g335;e12;x03;", new int[] {1, 1, 1}, new int[] {0, 1, 1});
        mays("g335;e12;x14;x24;", new int[] {0, 0, 0}, new int[] {0, 0, 0});
        mays("g335;e01;x11;", new int[] {0, 0, 1}, new int[] {0, 0, 4});
        mays("g335;e01;x11;x24;", new int[] {0, 0, 0}, new int[] {0, 0, 0});
    }

    static void mayOfColours() {
        mays("g433;e01;e12;", new int[] {1, 1, 1}, new int[] {1, 1, 1});
        mays("g433;e01;e12;e20;x10;x21;", new int[] {1, 1, 0}, new int[] {2, 2, 0});
        mays("g433;e01;e12;x01;x11;x20;", new int[] {1, 1, 0}, new int[] {0, 2, 0});
        mays("g433;e01;x22;x11;", new int[] {0, 0, 0}, new int[] {0, 0, 0});
        mays("g433;", new int[] {0, 0, 0}, new int[] {0, 0, 0});
    }

    // Promise 13
    static void move() {
        HomingNets x = new HomingNets();
        due("move 0", x.move(0), NO);
        due("move 4", x.move(4), BAD);
        due("move -1", x.move(-1), BAD);
        due("nothing changed", x.count(5), 0);
        due("move 1", x.move(1), 3);
        values("moved 1", x, 3, 3, 4, 2);
        due("move 3", x.move(3), 4);
        values("moved 3", x, 3, 3, 4, 4);
        due("two changes", x.count(5), 2);
        due("a move is none by the daemon", x.count(7), NONE);
        HomingNets y = laid("g122;x01;x11;");
        due("1 more modulo V", y.move(0), 0);
        values("1 more modulo V", y, 0, 1);
    }

    // Promises 14 and 15
    static void tokensAndLegal() {
        HomingNets x = laid("g133;");
        int[] tokens = {1, 2, 2, 7, 4, 6, 7, 6, 4, 4, 7, 6};
        for (int code = 0; code < tokens.length; code++) {
            x.turn(code);
            due("tokens of " + code, x.tokens(), tokens[code]);
            due("legal of " + code, x.legal(), Integer.bitCount(tokens[code]) == 1 ? 1 : 0);
        }
        HomingNets y = laid("g422;e01;");
        int[] both = {3, 0, 0, 3};
        for (int code = 0; code < both.length; code++) {
            y.turn(code);
            due("colours: tokens of " + code, y.tokens(), both[code]);
            due("colours: legal of " + code, y.legal(), both[code] == 0 ? 1 : 0);
        }
        // One that may is LEGAL with counters alone.
        HomingNets z = laid("g322;e01;x11;x01;");
        due("distances: one may", z.tokens(), 1);
        due("distances: one may is not legal", z.legal(), 0);
        z.hit(0, 0);
        due("distances: legal", z.legal(), 1);
    }

    static void mates(String text, int... want) {
        HomingNets x = laid(text);
        for (int i = 0; i < want.length; i++) {
            due(text + " mate " + i, x.mate(i), want[i]);
        }
        due(text + " mate -1", x.mate(-1), BAD);
        due(text + " mate N", x.mate(want.length), BAD);
    }

    // Promise 16
    static void mate() {
        mates("g122;", NO, NO);
        mates("g422;e01;", NO, NO);
        mates("g245;e01;e23;x02;x11;x24;x33;", 1, 0, 3, 2);
        mates("g245;e01;x02;x11;x24;x33;", 1, 0, NONE, NONE);
        mates("g245;e01;e23;x01;x13;x24;x30;", NONE, NONE, NONE, NONE);
        mates("g333;e01;e12;e02;x11;x22;", NONE, 0, 1);
        mates("g333;e01;e02;x11;x21;", NONE, 0, 0);
        mates("g333;e01;e02;x02;x11;x21;", 1, NONE, NONE);
        mates("g345;e01;e02;e13;e23;x11;x21;x32;", NONE, 0, 0, 1);
        mates("g333;x11;x22;", NONE, NONE, NONE);
    }

    // Promise 17
    static void undo() {
        HomingNets x = new HomingNets();
        due("undo nothing", x.undo(), NO);
        x.hit(0, 0);
        x.turn(1);
        x.turn(358);
        x.move(1);
        x.run(1, 0, 1);
        due("a run of daemon 1 moved the lowest", x.count(7), 2);
        x.turn(0);
        due("six changes", x.count(5), 6);
        due("undo the last turn", x.undo(), 5);
        values("undone last turn", x, 3, 3, 3, 2);
        due("who moved last stays", x.count(7), 2);
        due("undo the run", x.undo(), 4);
        due("who moved last is undone", x.count(7), NONE);
        values("undone run", x, 3, 3, 4, 2);
        due("undo the move", x.undo(), 3);
        values("undone move", x, 3, 1, 4, 2);
        due("undo the turn", x.undo(), 2);
        due("undone turn", x.code(), 1);
        due("undo the first turn", x.undo(), 1);
        values("undone first turn", x, 0, 1, 4, 2);
        due("undo the hit", x.undo(), 0);
        values("undone hit", x, 3, 1, 4, 2);
        due("undo no more", x.undo(), NO);
        due("undo still no more", x.undo(), NO);

        for (int k = 0; k < 8; k++) {
            x.turn(k);
            due("changes that can be undone", x.count(5), Math.min(k + 1, 6));
        }
        for (int k = 5; k >= 0; k--) {
            due("undo of eight", x.undo(), k);
            due("code of eight", x.code(), k + 1);
        }
        due("the first two are not undone", x.undo(), NO);
        due("code behind", x.code(), 1);
        HomingNets y = laid("g132;");
        y.run(0, 0, 300);
        y.hit(0, 0);
        y.turn(8);
        y.move(1);
        due("what was no change can not be undone", y.undo(), NO);
        // Who moved last is kept with each of more changes than can be undone.
        HomingNets w = laid("g464;e01;e12;e23;e34;e45;e50;");
        for (int k = 0; k < 6; k++) {
            w.run(1, 0, 1);
            w.turn(0);
        }
        int[] lasts = {5, 4, 4, 3, 3, 2};
        for (int k = 0; k < 6; k++) {
            due("undo of twelve", w.undo(), 5 - k);
            due("last of twelve, undone " + k, w.count(7), lasts[k]);
        }
        // What is set by daemon 1 stays through other changes and comes back with them.
        HomingNets z = new HomingNets();
        z.run(1, 0, 1);
        z.turn(358);
        z.run(1, 0, 1);
        due("last by daemon 1", z.count(7), 2);
        z.undo();
        due("last by daemon 1, one undone", z.count(7), 1);
        z.undo();
        due("last by daemon 1, two undone", z.count(7), 1);
        z.undo();
        due("last by daemon 1, three undone", z.count(7), NONE);
    }

    // Promise 18
    static void run() {
        HomingNets x = new HomingNets();
        int[][] bad = {{-1, 0, 1}, {5, 0, 1}, {0, -1, 1}, {0, 10000, 1}, {0, 0, 0}, {0, 0, 301}, {0, 0, -1},
            {LEAST, 0, 1}, {MOST, 0, 1}, {3, LEAST, 1}, {3, MOST, 1}, {0, 0, LEAST}, {0, 0, MOST}};
        for (int[] b : bad) {
            due("run " + b[0] + " " + b[1] + " " + b[2], x.run(b[0], b[1], b[2]), BAD);
        }
        due("BAD runs are no change", x.count(5), 0);
        for (int daemon = 0; daemon < 5; daemon++) {
            HomingNets y = laid("g132;");
            due("legal ahead, daemon " + daemon, y.run(daemon, 9999, 300), 0);
            due("no step is no change, daemon " + daemon, y.count(5), 0);
        }
        due("one step", x.run(0, 0, 1), 1);
        values("the lowest", x, 3, 3, 4, 2);
        due("one step more", x.run(0, 0, 1), 1);
        values("the lowest again", x, 3, 3, 3, 2);
        due("legal", x.legal(), 1);
        due("it ends where it is legal", x.run(0, 0, 300), 0);
        due("two changes", x.count(5), 2);
        // All at once, each by the state ahead.
        HomingNets y = new HomingNets();
        due("all at once", y.run(2, 0, 1), 1);
        values("all at once", y, 3, 3, 1, 4);
        // Two of one colour at once never come apart.
        HomingNets z = laid("g422;e01;");
        due("for ever", z.run(2, 0, 299), 299);
        values("for ever", z, 1, 1);
        due("for ever on", z.run(2, 0, 300), 300);
        values("for ever on", z, 1, 1);
        due("a run is one change", z.count(5), 2);
    }

    static int drawOf(int z, int k) {
        BigInteger x = BigInteger.valueOf(7919L * z + 6151L * k + 1);
        return x.pow(2).mod(BigInteger.valueOf(65521)).intValue();
    }

    static int drawnOf(int tokens, int draw) {
        int ahead = draw % Integer.bitCount(tokens);
        for (int i = 0; i < 6; i++) {
            if ((tokens >> i & 1) == 1 && ahead-- == 0) {
                return i;
            }
        }
        return NONE;
    }

    static void runDrawn() {
        due("a draw by hand", drawOf(1, 1), 14071 * 14071 % 65521);
        for (int z : new int[] {0, 1, 77, 1234, 9998, 9999}) {
            HomingNets x = laid("g155;x04;x13;x22;x31;x40;");
            HomingNets y = laid("g155;x04;x13;x22;x31;x40;");
            int steps = x.run(3, z, 300);
            int k = 0;
            while (y.legal() == 0) {
                y.move(drawnOf(y.tokens(), drawOf(z, k)));
                k++;
            }
            due("drawn steps by " + z, steps, k);
            due("drawn code by " + z, x.code(), y.code());
            due("drawn is not by daemon 1", x.count(7), NONE);
        }
        due("one of one", laid("g322;e01;x01;x11;").run(3, 0, 300), 1);
        // The draws of the next run begin with 0 again.
        HomingNets x = laid("g155;x04;x13;x22;x31;x40;");
        x.run(3, 5, 2);
        int first = drawnOf(x.tokens(), drawOf(5, 0));
        int then = x.becomes(first);
        x.run(3, 5, 1);
        due("draws begin anew", x.value(first), then);
    }

    static void runInRing() {
        HomingNets x = laid("g464;e01;e12;e23;e34;e45;e50;");
        due("ring, at first the lowest", x.run(1, 0, 1), 1);
        due("ring: last", x.count(7), 0);
        x.turn(0);
        due("ring: next", x.next(1), 2);
        x.run(1, 0, 2);
        due("ring: two steps on", x.count(7), 2);
        for (int k = 0; k < 3; k++) {
            x.turn(0);
            x.run(1, 0, 1);
        }
        due("ring: the last of all", x.count(7), 5);
        x.turn(0);
        due("ring: from the last to the first", x.next(1), 1);
        // The one that moved last comes last of all, but it comes.
        HomingNets y = laid("g322;e01;x01;x11;");
        due("one may", y.tokens(), 1);
        y.run(1, 0, 1);
        y.hit(0, 1);
        due("the same again", y.next(1), 1);
        due("the same again moves", y.run(1, 0, 300), 1);
        due("the same again: last", y.count(7), 0);
        y.hit(0, 1);
        y.run(0, 0, 1);
        y.hit(1, 0);
        y.move(1);
        due("other daemons and moves are not daemon 1", y.count(7), 0);
    }

    static void runCruel() {
        HomingNets x = laid("g144;x03;x12;x21;");
        int worst = x.state(x.code(), 0);
        due("the worst there is", x.run(4, 0, 300), worst);
        // Asked first of all, ahead of what is told of all states.
        due("run first", new HomingNets().run(4, 0, 300), 4);
        due("next first", new HomingNets().next(4), 8);
        due("loop first", new HomingNets().loop(4, 0), 5);
        due("of several the lowest", laid("g422;e01;").next(4), 1);
        HomingNets z = laid("g464;e01;e12;e23;e34;e45;e50;");
        due("of all six the lowest", z.next(4), 1);
        HomingNets y = laid("g142;x01;x21;");
        due("no end", y.state(y.code(), 0), EVER);
        due("the worst goes on for ever", y.run(4, 0, 300), 300);
        due("and is not legal yet", y.legal(), 0);
        due("nor is it then", y.run(4, 7, 300), 300);
    }

    // Promise 19
    static void next() {
        HomingNets x = new HomingNets();
        due("next 0", x.next(0), 2);
        due("next 1", x.next(1), 2);
        due("next 2", x.next(2), 14);
        due("next 3", x.next(3), BAD);
        due("next 4", x.next(4), 8);
        due("next 5", x.next(5), BAD);
        due("next -1", x.next(-1), BAD);
        due("next least", x.next(LEAST), BAD);
        due("next most", x.next(MOST), BAD);
        HomingNets y = laid("g422;e01;x01;");
        HomingNets z = laid("g132;");
        for (int daemon : new int[] {0, 1, 2, 4}) {
            due("nobody, daemon " + daemon, y.next(daemon), 0);
            due("legal, but it goes on, daemon " + daemon, z.next(daemon), 1);
        }
        due("asking changes nothing", x.count(7), NONE);
        due("asking changes nothing yet", x.count(5), 0);
    }

    // Promise 20
    static void loop() {
        HomingNets x = laid("g132;");
        int[][] bad = {{1, 0}, {3, 0}, {-1, 0}, {5, 0}, {0, -1}, {0, 2}, {4, 2}, {LEAST, 0}, {MOST, 0}, {0, LEAST}, {0, MOST}};
        for (int[] b : bad) {
            due("loop " + b[0] + " " + b[1], x.loop(b[0], b[1]), BAD);
        }
        for (int daemon : new int[] {0, 2, 4}) {
            due("all legal: ahead, daemon " + daemon, x.loop(daemon, 0), 0);
            due("all legal: round, daemon " + daemon, x.loop(daemon, 1), 6);
        }
        x.turn(2);
        for (int daemon : new int[] {0, 4}) {
            due("one step ahead, daemon " + daemon, x.loop(daemon, 0), 1);
            due("one step ahead: round, daemon " + daemon, x.loop(daemon, 1), 6);
        }
        // 0 1 0: all may, at once they become 1 0 1, then 0 1 0 again.
        due("all at once: ahead", x.loop(2, 0), 0);
        due("all at once: round", x.loop(2, 1), 2);
        due("asking changes nothing", x.code(), 2);
        HomingNets y = laid("g335;e01;e12;x03;x13;x23;");
        due("nobody may in the end: ahead", y.loop(0, 0), 3);
        due("nobody may in the end: round", y.loop(0, 1), 1);
        due("nobody may in the end, worst first: ahead", y.loop(4, 0), y.state(y.code(), 0));
        due("nobody may in the end, worst first: round", y.loop(4, 1), 1);
        y.run(0, 0, 300);
        due("nobody may: ahead", y.loop(2, 0), 0);
        due("nobody may: round", y.loop(2, 1), 1);
        HomingNets z = laid("g422;e01;");
        due("colours at once: ahead", z.loop(2, 0), 0);
        due("colours at once: round", z.loop(2, 1), 2);
        HomingNets w = laid("g122;");
        due("round through all states there are", w.loop(0, 1), 4);
        due("round through all states from the first", w.loop(0, 0), 0);
        // Asking for a loop ahead of all else leaves what is said of all states as it is.
        due("behind a loop", z.all(0), 2);
        due("behind that a loop", z.loop(4, 0), 1);
        due("and all states again", z.within(1, 1), 4);
    }

    static int ringLast;

    // An object is good for 512 calls, so each time is looked at on one of its own.
    static int[] stormOf(String text, int daemon, int z, int n) {
        int code = laid(text).code();
        int times = 0;
        int row = 0;
        int longest = 0;
        for (int k = 0; k < n; k++) {
            HomingNets y = laid(text);
            y.turn(code);
            int draw = drawOf(z, k);
            if (draw % 8 == 0) {
                y.hit(draw / 8 % y.count(1), draw / 64 % y.count(2));
            } else {
                y.turn(stepOf(y, daemon));
            }
            code = y.code();
            times += y.legal();
            row = y.legal() == 1 ? 0 : row + 1;
            longest = Math.max(longest, row);
        }
        return new int[] {times, code, longest};
    }

    static int stepOf(HomingNets y, int daemon) {
        int tokens = y.tokens();
        int code = y.code();
        for (int k = 0; k < y.count(1); k++) {
            int i = daemon == 1 ? (ringLast + 1 + k) % y.count(1) : k;
            if ((tokens >> i & 1) == 1) {
                code += (y.becomes(i) - y.value(i)) * (int) Math.round(Math.pow(y.count(2), i));
                if (daemon != 2) {
                    ringLast = i;
                    break;
                }
            }
        }
        return code;
    }

    // Promise 21
    static void storm() {
        HomingNets x = new HomingNets();
        int[][] bad = {{-1, 0, 1, 0}, {3, 0, 1, 0}, {4, 0, 1, 0}, {0, -1, 1, 0}, {0, 10000, 1, 0}, {0, 0, 0, 0}, {0, 0, 201, 0},
            {0, 0, 1, -1}, {0, 0, 1, 3}, {LEAST, 0, 1, 0}, {0, MOST, 1, 0}, {0, 0, MOST, 0}, {0, 0, 1, MOST}};
        for (int[] b : bad) {
            due("storm " + b[0] + " " + b[1] + " " + b[2] + " " + b[3], x.storm(b[0], b[1], b[2], b[3]), BAD);
        }
        String[] texts = {"g145;x03;x11;x24;x32;", "g245;e01;e12;e23;e30;", "g355;e01;e12;e23;e34;x04;x14;", "g454;e01;e02;e12;e34;"};
        for (String text : texts) {
            for (int z : new int[] {0, 5, 4321, 9999}) {
                for (int daemon = 0; daemon < 3; daemon++) {
                    for (int n : new int[] {1, 20, 60}) {
                        HomingNets y = laid(text);
                        ringLast = -1;
                        int[] want = stormOf(text, daemon, z, n);
                        for (int what = 0; what < 3; what++) {
                            due(text + " storm " + daemon + " " + z + " " + n + " " + what, y.storm(daemon, z, n, what), want[what]);
                        }
                        due("a storm changes nothing", y.count(5), 0);
                        due("a storm keeps no mover", y.count(7), NONE);
                    }
                }
            }
        }
        HomingNets quiet = laid("g422;");
        due("always legal", quiet.storm(0, 5, 200, 0), 200);
        due("never in a row", quiet.storm(0, 5, 200, 2), 0);
        // From now on: who moved last by daemon 1 is not forgotten.
        HomingNets y = laid("g464;e01;e12;e23;e34;e45;e50;");
        y.run(1, 0, 1);
        y.turn(0);
        due("the first draw is no hit", drawOf(1, 0) % 8 == 0 ? 1 : 0, 0);
        due("storm from the last one on", y.storm(1, 1, 1, 1), 4);
        due("storm by the lowest", y.storm(0, 1, 1, 1), 1);
        due("most times", y.storm(0, 9999, 200, 2) >= 0 ? 1 : 0, 1);
    }

    // Promise 22
    static void state() {
        HomingNets x = laid("g422;e01;");
        int[][] want = {{1, 1, 1, 0}, {0, 0, 0, 1}, {0, 0, 0, 1}, {1, 1, 1, 0}};
        for (int code = 0; code < 4; code++) {
            for (int what = 0; what < 4; what++) {
                due("state " + code + " " + what, x.state(code, what), want[code][what]);
            }
        }
        int[][] bad = {{-1, 0}, {4, 0}, {0, -1}, {0, 4}, {LEAST, 0}, {MOST, 0}, {0, LEAST}, {0, MOST}};
        for (int[] b : bad) {
            due("state " + b[0] + " " + b[1], x.state(b[0], b[1]), BAD);
        }
        due("asking changes nothing", x.code(), 0);
        // Distances 0 - 1 - 2 of 3: only 0 1 2 is legal, its code is 0 + 3 + 18.
        HomingNets y = laid("g333;e01;e12;");
        due("distances legal", y.state(21, 3), 1);
        due("distances legal: worst", y.state(21, 0), 0);
        due("machine 0 hit: worst", y.state(22, 2), 1);
        due("machine 0 hit: best", y.state(22, 1), 1);
        // 2 2 2: 0 alone has to move (it can be first or not): 0, 1 are the fewest.
        due("all 2: hits", y.state(26, 2), 2);
        due("all 2: best", y.state(26, 1), 2);
        due("all 2: worst", y.state(26, 0), 2);
        due("all 0: hits", y.state(0, 2), 2);
        due("all 0: best", y.state(0, 1), 2);
        // 0 0 0: 2 becomes 1, then 1 becomes 1, then 2 becomes 2.
        due("all 0: worst", y.state(0, 0), 3);
    }

    static void stateForEver() {
        // Two pointers at themselves: both let go, then each takes the other one, in whatever order.
        HomingNets p = laid("g223;e01;x01;x12;");
        due("pointers: worst", p.state(7, 0), 4);
        due("pointers: best", p.state(7, 1), 4);
        due("pointers: hits", p.state(7, 2), 2);
        // Three 0s in a row of colours: the one in the middle mends both wires.
        HomingNets q = laid("g433;e01;e12;");
        due("colours: worst", q.state(0, 0), 2);
        due("colours: best", q.state(0, 1), 1);
        due("colours: hits", q.state(0, 2), 1);
        // Four counters with two values are too few: three tokens can go round without meeting.
        HomingNets x = laid("g142;x01;x21;");
        int code = x.code();
        due("code", code, 5);
        due("for ever", x.state(code, 0), EVER);
        due("but it can be legal", x.state(code, 1) > 0 ? 1 : 0, 1);
        due("hits", x.state(code, 2), 1);
        due("not legal", x.state(code, 3), 0);
        int endless = 0;
        for (int c = 0; c < 16; c++) {
            endless += x.state(c, 0) == EVER ? 1 : 0;
        }
        due("as many as are told of all", x.all(1), endless);
    }

    // Promise 23
    static void all() {
        HomingNets x = laid("g333;e01;e12;");
        due("all -1", x.all(-1), BAD);
        due("all 7", x.all(7), BAD);
        due("all least", x.all(LEAST), BAD);
        due("all most", x.all(MOST), BAD);
        int[] told = new int[7];
        told[3] = NONE;
        for (int code = 0; code < 27; code++) {
            int worst = x.state(code, 0);
            told[0] += x.state(code, 3);
            told[1] += worst == EVER ? 1 : 0;
            told[5] += worst;
            if (worst > told[2]) {
                told[2] = worst;
                told[3] = code;
            }
            told[6] = Math.max(told[6], x.state(code, 1));
        }
        for (int what = 0; what < 7; what++) {
            due("all " + what, x.all(what), told[what]);
        }
        due("one is legal", x.all(0), 1);
        due("none for ever", x.all(1), 0);
        due("three machines, three moves at least", x.all(6), 3);
        HomingNets y = laid("g132;");
        int[] counters = {6, 0, 1, 2, 0, 2, 1};
        HomingNets z = laid("g422;");
        int[] free = {4, 0, 0, 0, 0, 0, 0};
        for (int what = 0; what < 7; what++) {
            due("counters: all " + what, y.all(what), counters[what]);
            due("no wires: all " + what, z.all(what), free[what]);
        }
    }

    static void allForEver() {
        HomingNets x = laid("g142;");
        due("for ever", x.all(1), 8);
        due("all legal", x.all(0), 8);
        due("the greatest of others", x.all(2), 0);
        due("the lowest code of others", x.all(3), 0);
        due("legal stays legal", x.all(4), 0);
        due("all worsts together", x.all(5), 0);
        due("the greatest best", x.all(6) > 0 ? 1 : 0, 1);
    }

    // Promise 24
    static void within() {
        HomingNets x = laid("g333;e01;e12;");
        int[][] bad = {{-1, 0}, {4, 0}, {0, -1}, {0, 2}, {LEAST, 0}, {MOST, 0}, {0, LEAST}, {0, MOST}};
        for (int[] b : bad) {
            due("within " + b[0] + " " + b[1], x.within(b[0], b[1]), BAD);
        }
        int[] many = {1, 7, 19, 27};
        for (int k = 0; k < 4; k++) {
            int most = 0;
            for (int code = 0; code < 27; code++) {
                most = x.state(code, 2) <= k ? Math.max(most, x.state(code, 0)) : most;
            }
            due("within " + k + ": how many", x.within(k, 1), many[k]);
            due("within " + k + ": worst", x.within(k, 0), most);
        }
        HomingNets y = laid("g142;");
        due("within 0", y.within(0, 0), 0);
        due("within 1", y.within(1, 0), EVER);
        due("within 4", y.within(4, 0), EVER);
        due("within 0: how many", y.within(0, 1), 8);
        due("within 1: how many", y.within(1, 1), 16);
        due("within 5", y.within(5, 0), BAD);
    }

    // Promise 25
    static void count() {
        HomingNets x = laid("g245;e01;e23;x01;");
        counts("count", x, 2, 4, 5, 2, 625, 0, 17, NONE);
        x.write(';');
        x.run(1, 0, 2);
        counts("count behind a run", x, 2, 4, 5, 2, 625, 1, 18, 1);
        due("count -1", x.count(-1), BAD);
        due("count 8", x.count(8), BAD);
        due("count least", x.count(LEAST), BAD);
        due("count most", x.count(MOST), BAD);
    }
}
