/**
 * Each sentence of the document that names an edge (too small, too large, empty, full, round, refused)
 * by a test of its own. The answers due are worked out by hand, but for some of the net at first
 * (65 that are LEGAL, what DAEMON 4 does), which ../shared/tests tells.
 */
public final class EdgesTest {
    static final int BAD = -1, NO = -2, FULL = -3, NONE = -4, EVER = -5;
    static final int LEAST = Integer.MIN_VALUE, MOST = Integer.MAX_VALUE;
    static int wrong = 0;
    static int looked = 0;
    static int edges = 0;
    static String words = "";

    public static void main(String[] args) {
        edgesOfHeads();
        edgesOfItems();
        edgesOfTold();
        edgesOfValues();
        edgesOfRules();
        edgesOfMoves();
        edgesOfUndo();
        edgesOfDaemons();
        edgesOfRuns();
        edgesOfStorms();
        edgesOfAllStates();
        edgesOfRefusals();
        System.out.println(edges + " edges, " + looked + " answers looked at, " + wrong + " wrong");
        System.exit(wrong == 0 ? 0 : 1);
    }

    static void edge(String sentence, Runnable test) {
        words = sentence;
        edges++;
        int before = looked;
        try {
            test.run();
        } catch (RuntimeException thrown) {
            wrong++;
            System.out.println(words + ": " + thrown);
        }
        if (looked == before) {
            wrong++;
            System.out.println(words + ": nothing was looked at");
        }
    }

    static void due(String what, int got, int want) {
        looked++;
        if (got != want) {
            wrong++;
            System.out.println("\"" + words + "\": " + what + " answered " + got + ", due is " + want);
        }
    }

    static void tell(HomingNets x, String text) {
        x.wipe();
        for (int k = 0; k < text.length(); k++) {
            x.write(text.charAt(k));
        }
    }

    static HomingNets told(String text) {
        HomingNets x = new HomingNets();
        tell(x, text);
        return x;
    }

    static HomingNets laid(String text) {
        HomingNets x = told(text);
        due("whether " + text + " is laid", x.lay() > 0 ? 1 : 0, 1);
        return x;
    }

    static void faults(int want, String... texts) {
        for (String text : texts) {
            HomingNets x = told(text);
            due("fault of " + text, x.fault(), want);
            due("lay of " + text + " is refused", x.lay() == NO ? 1 : 0, want == NONE && !text.isEmpty() ? 0 : 1);
        }
    }

    static void values(String what, HomingNets x, int... want) {
        for (int i = 0; i < want.length; i++) {
            due(what + ": value " + i, x.value(i), want[i]);
        }
        due(what + ": the one behind the last", x.value(want.length), BAD);
    }

    /** All that can be seen of an object by few calls. */
    static String seen(HomingNets x) {
        StringBuilder all = new StringBuilder();
        for (int what = 0; what < 8; what++) {
            all.append(x.count(what)).append(' ');
        }
        return all.append(x.code()).append(' ').append(x.fault()).append(' ').append(x.next(1)).append(' ').append(x.all(0)).toString();
    }

    static void same(String what, HomingNets x, String before) {
        String now = seen(x);
        due(what + " changed " + before + " to " + now, now.equals(before) ? 0 : 1, 0);
    }

    // ---- gTNV

    static void edgesOfHeads() {
        edge("KIND (1 COUNTERS, 2 POINTERS, 3 DISTANCES, 4 COLOURS)", () -> {
            faults(0, "g022;", "g522;", "g622;", "g922;");
            faults(NONE, "g122;", "g223;", "g322;", "g422;");
        });
        edge("N 2 to 6", () -> {
            faults(0, "g102;", "g112;", "g172;", "g182;", "g192;", "g212;", "g302;", "g312;", "g402;", "g412;", "g472;");
            faults(NONE, "g122;", "g162;", "g422;", "g462;");
            due("two machines", laid("g122;").count(1), 2);
            due("six machines", laid("g162;").count(1), 6);
        });
        edge("V 2 to 7", () -> {
            faults(0, "g120;", "g121;", "g128;", "g129;", "g328;", "g420;", "g421;", "g428;");
            faults(NONE, "g122;", "g127;", "g327;", "g422;", "g427;", "g147;");
            due("two values", laid("g122;").count(2), 2);
            due("seven values", laid("g127;").count(2), 7);
        });
        edge("V to the N 4096 at most", () -> {
            faults(NONE, "g164;", "g155;", "g147;", "g464;", "g455;", "g447;", "g355;", "g347;");
            faults(0, "g165;", "g156;", "g157;", "g166;", "g167;", "g465;", "g456;", "g457;", "g466;", "g467;");
            due("4096 states", told("g164;").lay(), 4096);
            due("3125 states", told("g455;").lay(), 3125);
            due("2401 states", told("g347;").lay(), 2401);
        });
        edge("4096 at most, where V is right for the KIND too", () -> faults(0, "g256;", "g267;", "g356;", "g357;", "g366;", "g367;"));
        edge("V is N + 1, if T is 2", () -> {
            faults(NONE, "g223;", "g234;", "g245;");
            faults(0, "g222;", "g224;", "g233;", "g235;", "g244;", "g246;", "g227;");
        });
        edge("N or more, if T is 3", () -> {
            faults(NONE, "g322;", "g323;", "g333;", "g334;", "g337;", "g344;", "g345;", "g355;");
            faults(0, "g332;", "g343;", "g342;", "g354;", "g352;", "g362;", "g364;");
        });
        edge("all thousand heads", EdgesTest::allHeads);
        edge("told just once", () -> {
            faults(5, "g122;g122;", "g122;g133;", "g422;g422;e01;");
            faults(13, "g433;e01;x22;g433;");
        });
        edge("the first ITEM is this one; another first ITEM is the FAULT", () ->
                faults(0, "e01;", "e01;g422;", "x00;", "x00;g122;", ";", ";g122;", " g122;", "0g122;", "~"));
    }

    static void allHeads() {
        String[] counters = {"22 23 24 25 26 27", "32 33 34 35 36 37", "42 43 44 45 46 47", "52 53 54 55", "62 63 64"};
        String any = " " + String.join(" ", counters) + " ";
        String[] good = {"", any, " 23 34 45 ", " 22 23 24 25 26 27 33 34 35 36 37 44 45 46 47 55 ", any, "", "", "", "", ""};
        for (int head = 0; head < 1000; head++) {
            String nv = "" + head / 10 % 10 + head % 10;
            boolean so = good[head / 100].contains(" " + nv + " ");
            HomingNets x = told("g" + head / 100 + nv + ";");
            due("fault of head " + head, x.fault(), so ? NONE : 0);
            int states = (int) Math.round(Math.pow(head % 10, head / 10 % 10));
            due("lay of head " + head, x.lay(), so ? states : NO);
        }
    }

    // ---- eAB, xIV, FAULT

    static void edgesOfItems() {
        edge("each a letter, then figures, a ; behind them: too few figures", () -> {
            faults(0, "g", "g;", "g1;", "g12;");
            faults(5, "g422;e;", "g422;e0;", "g422;x;", "g422;x0;", "g422;;");
        });
        edge("too many figures", () -> {
            faults(0, "g1222;", "g01222;");
            faults(5, "g422;e011;", "g422;x000;", "g422;e001;");
        });
        edge("no ; behind them", () -> {
            faults(0, "g122", "g12", "g122:", "g122x", "g122e01;", "g422,e01;");
            faults(5, "g422;e01", "g422;e0", "g422;e", "g422;x01", "g422;x01:", "g422;e01e01;", "g422;x00x01;");
        });
        edge("figures: the signs beside 0 and 9 are none", () -> {
            faults(0, "g/22;", "g:22;", "g1/2;", "g1:2;", "g12/;", "g12:;", "g 22;", "g1-2;");
            faults(5, "g422;e/1;", "g422;e:1;", "g422;e0/;", "g422;e0:;", "g422;x/0;", "g422;x:0;", "g422;x0/;", "g422;x0:;", "g422;x 0;");
        });
        edge("a letter that no ITEM has", () -> {
            faults(0, "G122;", "f122;", "h122;", "y122;");
            faults(5, "g422;d01;", "g422;f01;", "g422;E01;", "g422;w00;", "g422;y00;", "g422;X00;", "g422;001;", "g422; x00;");
        });
        edge("eAB: two MACHINES that there are", () -> {
            faults(NONE, "g422;e01;", "g422;e10;", "g462;e05;", "g462;e50;", "g433;e12;");
            faults(5, "g422;e02;", "g422;e20;", "g462;e06;", "g462;e60;", "g433;e13;", "g433;e31;", "g433;e09;", "g433;e90;", "g433;e33;");
        });
        edge("eAB: between A and B, two", () -> faults(5, "g422;e00;", "g422;e11;", "g462;e55;", "g234;e22;", "g333;e00;"));
        edge("eAB: two that are not WIRED yet", () -> {
            faults(9, "g422;e01;e01;", "g422;e01;e10;", "g422;e10;e01;");
            faults(17, "g433;e01;e12;e02;e21;", "g234;e01;e12;e02;e20;", "g333;e01;e12;e02;e10;");
            faults(NONE, "g433;e01;e12;e02;", "g245;e01;e02;e03;e12;e13;e23;");
        });
        edge("eAB: none, if T is 1", () -> {
            faults(5, "g122;e01;", "g133;e12;", "g164;e05;");
            faults(9, "g122;x01;e01;");
        });
        edge("xIV: MACHINES and VALUES that there are", () -> {
            faults(NONE, "g122;x00;", "g122;x11;", "g164;x53;", "g127;x16;", "g245;x34;");
            faults(5, "g122;x20;", "g122;x02;", "g164;x60;", "g164;x54;", "g127;x07;", "g127;x26;", "g245;x35;", "g122;x90;", "g122;x09;");
        });
        edge("0 without", () -> values("no x", laid("g245;e01;"), 0, 0, 0, 0));
        edge("of each the last one", () -> {
            values("thrice one", laid("g143;x02;x12;x01;x32;x30;x00;"), 0, 2, 0, 0);
            values("0 told at last", laid("g122;x01;x11;x00;"), 0, 1);
        });
        edge("0 without: VALUES of the net ahead are gone", () -> {
            HomingNets x = laid("g133;x02;x12;x22;");
            tell(x, "g133;x11;");
            due("lay", x.lay(), 27);
            values("another net", x, 0, 1, 0);
        });
        edge("FAULT: the first ITEM that is not so, of several", () -> {
            faults(0, "g922;x99;", "x00;e00;");
            faults(5, "g122;x02;x20;e01;", "g122;;g122;");
            faults(9, "g422;x00;e00;x09;", "g422;e01;e01;e01;");
        });
        edge("FAULT: the place of its first letter, 0 first", () -> {
            faults(13, "g422;e01;x01;x0", "g422;e01;x01;x09;", "g422;e01;x01;z");
        });
        edge("FAULT of an empty TEXT", () -> faults(NONE, ""));
        edge("FAULT: nothing is changed by asking", () -> {
            HomingNets x = told("g433;e01;e12;x09;");
            String before = seen(x);
            due("fault", x.fault(), 13);
            due("fault again", x.fault(), 13);
            same("fault", x, before);
            due("wired as before", x.wired(0, 3), 1);
        });
    }

    // ---- promises 1 to 5

    static void edgesOfTold() {
        edge("a new object: at first g145;x03;x11;x24;x32;", () -> {
            HomingNets x = new HomingNets();
            values("at first", x, 3, 1, 4, 2);
            int[] counts = {1, 4, 5, 0, 625, 0, 0, NONE};
            for (int what = 0; what < 8; what++) {
                due("count " + what, x.count(what), counts[what]);
            }
        });
        edge("a new object: THE TEXT is empty", () -> {
            HomingNets x = new HomingNets();
            due("wipe", x.wipe(), 0);
            due("lay", x.lay(), NO);
            due("fault", x.fault(), NONE);
        });
        edge("two objects have nothing in common", () -> {
            HomingNets x = new HomingNets();
            HomingNets y = laid("g422;e01;x01;");
            y.hit(0, 0);
            y.all(2);
            values("the other one", x, 3, 1, 4, 2);
            due("the other one's text", x.count(6), 0);
            due("the other one's states", x.all(0), 65);
        });
        edge("a letter (32 to 126)", () -> {
            HomingNets x = new HomingNets();
            due("31", x.write(31), BAD);
            due("127", x.write(127), BAD);
            due("0", x.write(0), BAD);
            due("-1", x.write(-1), BAD);
            due("least", x.write(LEAST), BAD);
            due("most", x.write(MOST), BAD);
            due("'g' and 256", x.write('g' + 256), BAD);
            due("nothing was written", x.count(6), 0);
            due("32", x.write(32), 1);
            due("126", x.write(126), 2);
        });
        edge("letters (200 at most)", () -> {
            HomingNets x = told("g122;");
            for (int k = 6; k <= 200; k++) {
                due("letter " + k, x.write('x'), k);
            }
            due("letter 201", x.write('x'), FULL);
            due("and again", x.write(';'), FULL);
            due("as long as ahead", x.count(6), 200);
            due("wipe", x.wipe(), 200);
            due("room again", x.write('g'), 1);
        });
        edge("BAD; FULL: of several the first", () -> {
            HomingNets x = told("x".repeat(200));
            due("31 at 200", x.write(31), BAD);
            due("127 at 200", x.write(127), BAD);
            due("32 at 200", x.write(32), FULL);
            due("126 at 200", x.write(126), FULL);
        });
        edge("the 200th letter is read", () -> {
            String text = "g422;" + "x01;".repeat(48);
            HomingNets x = told(text);
            due("197 letters", x.fault(), NONE);
            x.write('x');
            x.write('0');
            due("the last letter", x.write('0'), 200);
            due("what was FULL is not behind", x.write(';'), FULL);
            due("an ITEM without end", x.fault(), 197);
        });
        edge("wipe: how long it was", () -> {
            HomingNets x = new HomingNets();
            due("nothing", x.wipe(), 0);
            x.write('~');
            due("one", x.wipe(), 1);
            due("nothing again", x.wipe(), 0);
            due("all", told("y".repeat(200)).wipe(), 200);
        });
        edge("wipe: the net stays, a change can still be UNDONE", () -> {
            HomingNets x = laid("g133;x01;");
            x.hit(1, 2);
            due("wipe", x.wipe(), 9);
            values("the net", x, 1, 2, 0);
            due("undo", x.undo(), 0);
        });
        edge("LAID is a TEXT not empty", () -> {
            HomingNets x = laid("g133;");
            x.wipe();
            due("lay of nothing", x.lay(), NO);
            due("the net stays", x.count(4), 27);
        });
        edge("if T is 4, no MACHINE has V WIRES or more", () -> {
            due("two values, one wire", told("g422;e01;").lay(), 4);
            due("two values, two wires", told("g432;e01;e02;").lay(), NO);
            due("two values, a wire each", told("g442;e01;e23;").lay(), 16);
            due("three values, two wires", told("g433;e01;e02;e12;").lay(), 27);
            due("three values, three wires", told("g443;e30;e31;e32;").lay(), NO);
            due("four values, three wires", told("g444;e01;e02;e03;e12;e13;e23;").lay(), 256);
            due("four values, four wires", told("g454;e40;e41;e42;e43;").lay(), NO);
            due("four values, five wires", told("g464;e50;e51;e52;e53;e54;").lay(), NO);
            due("five values, four wires", told("g455;e40;e41;e42;e43;").lay(), 3125);
        });
        edge("too many WIRES are no FAULT", () -> due("fault", told("g432;e01;e02;").fault(), NONE));
        edge("lay: STATES", () -> {
            due("fewest", told("g122;").lay(), 4);
            due("most", told("g464;").lay(), 4096);
        });
        edge("lay: nobody moved last", () -> {
            HomingNets x = new HomingNets();
            x.run(1, 0, 2);
            due("moved last ahead of it", x.count(7), 2);
            tell(x, "g145;x03;x11;x24;x32;");
            due("lay", x.lay(), 625);
            due("moved last", x.count(7), NONE);
            due("the lowest again", x.next(1), 2);
        });
        edge("lay: LAID none can be UNDONE", () -> {
            HomingNets x = told("g122;");
            x.hit(0, 0);
            due("lay", x.lay(), 4);
            due("changes", x.count(5), 0);
            due("undo", x.undo(), NO);
        });
        edge("lay: THE TEXT stays", () -> {
            HomingNets x = laid("g122;x01;");
            due("letters", x.count(6), 9);
            x.hit(0, 0);
            due("lay again", x.lay(), 4);
            values("as told", x, 1, 0);
            x.write('x');
            due("one letter more", x.lay(), NO);
        });
        edge("lay: NO, nothing changes", () -> {
            String[] refused = {"", "g122", "g122;x02;", "g432;e01;e02;x01;", "x00;"};
            for (String text : refused) {
                HomingNets x = laid("g443;e01;e12;e23;x01;x11;");
                x.run(1, 0, 1);
                x.hit(3, 2);
                tell(x, text);
                String before = seen(x);
                due("lay of " + text, x.lay(), NO);
                same("lay of " + text, x, before);
                due("wired 0 2", x.wired(0, 2), 0);
                due("wired 2 3", x.wired(2, 3), 1);
                due("undo", x.undo(), 1);
            }
        });
        edge("lay: WIRES of the net ahead are gone", () -> {
            HomingNets x = laid("g433;e01;e12;e02;");
            tell(x, "g433;e12;");
            x.lay();
            due("wires", x.count(3), 1);
            due("wired 0 1", x.wired(0, 1), 0);
            due("wired 1 2", x.wired(1, 2), 1);
        });
    }

    // ---- promises 6 to 10

    static void edgesOfValues() {
        edge("value: BAD", () -> {
            for (int n = 2; n <= 6; n++) {
                HomingNets x = laid("g1" + n + "3;x" + (n - 1) + "2;");
                due("the last of " + n, x.value(n - 1), 2);
                due("behind the last of " + n, x.value(n), BAD);
                due("-1 of " + n, x.value(-1), BAD);
                due("least of " + n, x.value(LEAST), BAD);
                due("most of " + n, x.value(MOST), BAD);
            }
        });
        edge("hit: what it was", () -> {
            HomingNets x = laid("g127;x06;");
            due("from the greatest to 0", x.hit(0, 0), 6);
            due("from 0 to the greatest", x.hit(1, 6), 0);
            values("hit", x, 0, 6);
        });
        edge("hit: BAD", () -> {
            HomingNets x = laid("g164;");
            String before = seen(x);
            int[][] bad = {{-1, 1}, {6, 1}, {7, 1}, {0, -1}, {0, 4}, {5, 4}, {6, 4}, {LEAST, 1}, {MOST, 1}, {0, LEAST}, {0, MOST}, {-1, -1}};
            for (int[] b : bad) {
                due("hit " + b[0] + " " + b[1], x.hit(b[0], b[1]), BAD);
            }
            same("BAD hits", x, before);
            due("the last one by the greatest", x.hit(5, 3), 0);
        });
        edge("hit: NO: it is so", () -> {
            HomingNets x = new HomingNets();
            String before = seen(x);
            due("3 is 3", x.hit(0, 3), NO);
            due("2 is 2", x.hit(3, 2), NO);
            same("NO hits", x, before);
        });
        edge("CODE: each times V to the I", () -> {
            due("0", laid("g164;").code(), 0);
            int[] places = {1, 4, 16, 64, 256, 1024};
            for (int i = 0; i < 6; i++) {
                due("machine " + i, laid("g164;x" + i + "3;").code(), 3 * places[i]);
            }
            due("the greatest", laid("g164;x03;x13;x23;x33;x43;x53;").code(), 4095);
        });
        edge("turn: the CODE that it was", () -> {
            HomingNets x = laid("g164;");
            due("to the greatest", x.turn(4095), 0);
            values("the greatest", x, 3, 3, 3, 3, 3, 3);
            due("to 0", x.turn(0), 4095);
            values("0", x, 0, 0, 0, 0, 0, 0);
        });
        edge("turn: BAD", () -> {
            for (String head : new String[] {"g122;", "g164;", "g223;", "g355;"}) {
                HomingNets x = laid(head);
                String before = seen(x);
                due("STATES " + head, x.turn(x.count(4)), BAD);
                due("-1 " + head, x.turn(-1), BAD);
                due("least " + head, x.turn(LEAST), BAD);
                due("most " + head, x.turn(MOST), BAD);
                same("BAD turns", x, before);
                due("one less than STATES " + head, x.turn(x.count(4) - 1), 0);
            }
        });
        edge("turn: NO: it is so", () -> {
            HomingNets x = new HomingNets();
            String before = seen(x);
            due("358 is 358", x.turn(358), NO);
            same("NO turns", x, before);
            due("0 is 0", laid("g122;").turn(0), NO);
        });
        edge("wired: by COUNTERS whether one sees the other one, 0 the last one", () -> {
            for (int n = 2; n <= 6; n++) {
                HomingNets x = laid("g1" + n + "2;");
                due("last and first of " + n, x.wired(n - 1, 0), 1);
                due("first and last of " + n, x.wired(0, n - 1), 1);
                due("the first two of " + n, x.wired(0, 1), 1);
                due("back, of " + n, x.wired(1, 0), 1);
                due("no WIRES of " + n, x.count(3), 0);
            }
            due("three: all see one another", laid("g132;").wired(2, 0), 1);
            due("four: not those across", laid("g142;").wired(0, 2), 0);
            due("four: not those across, back", laid("g142;").wired(3, 1), 0);
            due("six: not 1 and 5", laid("g162;").wired(1, 5), 0);
        });
        edge("wired: both ways", () -> {
            HomingNets x = laid("g464;e50;");
            due("as told", x.wired(5, 0), 1);
            due("back", x.wired(0, 5), 1);
            due("others", x.wired(0, 1), 0);
        });
        edge("wired: BAD (one, told twice, too)", () -> {
            HomingNets x = laid("g433;e01;");
            int[][] bad = {{0, 0}, {1, 1}, {2, 2}, {3, 3}, {-1, -1}, {-1, 0}, {0, -1}, {3, 0}, {0, 3}, {LEAST, 0}, {0, MOST}};
            for (int[] b : bad) {
                due("wired " + b[0] + " " + b[1], x.wired(b[0], b[1]), BAD);
            }
            due("counters, told twice", new HomingNets().wired(1, 1), BAD);
            due("counters, behind the last", new HomingNets().wired(3, 4), BAD);
        });
    }

    // ---- promises 11, 12, 14 to 16

    /** What each may (its rule) and becomes, in twos. */
    static void rules(String text, int... want) {
        HomingNets x = laid(text);
        int bits = 0;
        for (int i = 0; i < want.length / 2; i++) {
            due(text + " may " + i, x.may(i), want[2 * i]);
            due(text + " becomes " + i, x.becomes(i), want[2 * i + 1]);
            bits += want[2 * i] == 0 ? 0 : 1 << i;
        }
        due(text + " tokens", x.tokens(), bits);
    }

    static void edgesOfRules() {
        edge("COUNTERS: MACHINE 0 MAY, if its VALUE is that of the last one", () -> {
            rules("g132;", 1, 1, 0, NONE, 0, NONE);
            rules("g132;x21;", 0, NONE, 0, NONE, 1, 0);
        });
        edge("1 more, modulo V", () -> {
            rules("g127;x05;x15;", 1, 6, 0, NONE);
            rules("g127;x06;x16;", 1, 0, 0, NONE);
            rules("g122;x01;x11;", 1, 0, 0, NONE);
        });
        edge("Others MAY, if theirs is not that of the one ahead: that", () -> {
            rules("g133;x02;", 0, NONE, 1, 2, 0, NONE);
            rules("g133;x01;x10;x21;", 1, 2, 1, 1, 1, 0);
        });
        edge("POINTERS rule 1: the lowest such one, WIRED", () -> {
            rules("g234;e20;e21;x03;x13;", 0, NONE, 0, NONE, 1, 1);
            rules("g234;e21;x03;x13;", 3, 0, 0, NONE, 1, 2);
            rules("g234;e01;x03;", 3, 0, 0, NONE, 0, NONE);
        });
        edge("POINTERS rule 2: else, the lowest at none, WIRED", () -> {
            rules("g234;e20;e21;", 2, 3, 2, 3, 2, 1);
            rules("g234;e21;", 0, NONE, 2, 3, 2, 2);
            rules("g234;e01;e12;e02;x01;", 3, 0, 2, 3, 2, 2);
        });
        edge("POINTERS: rule 1 ahead of rule 2", () -> rules("g234;e20;e21;x13;", 2, 3, 0, NONE, 1, 2));
        edge("POINTERS rule 3: that is itself", () -> rules("g223;e01;x01;x12;", 3, 0, 3, 0));
        edge("POINTERS rule 3: or not WIRED with it", () -> {
            rules("g223;x02;x11;", 3, 0, 3, 0);
            rules("g223;x02;", 3, 0, 0, NONE);
        });
        edge("POINTERS rule 3: neither at none nor at it", () -> {
            rules("g234;e01;e12;x02;x13;x22;", 3, 0, 0, NONE, 0, NONE);
            rules("g234;e01;e12;x02;x11;", 0, NONE, 0, NONE, 0, NONE);
            rules("g234;e01;e12;x02;", 0, NONE, 1, 1, 2, 2);
            rules("g223;e01;x02;x12;", 3, 0, 3, 0);
        });
        edge("POINTERS: nobody at none without WIRES MAY", () -> rules("g223;", 0, NONE, 0, NONE));
        edge("DISTANCES: MACHINE 0 wants 0", () -> {
            rules("g322;e01;x01;x11;", 1, 0, 0, NONE);
            rules("g323;x02;x12;", 1, 0, 0, NONE);
            rules("g323;e01;x11;", 0, NONE, 0, NONE);
        });
        edge("DISTANCES: 1 more than the least VALUE", () -> rules("g345;e10;e12;e13;x04;x22;x33;", 1, 0, 1, 3, 1, 1, 1, 1));
        edge("DISTANCES: V - 1 at most", () -> {
            rules("g333;e12;x11;x22;", 0, NONE, 1, 2, 0, NONE);
            rules("g333;e12;x12;x22;", 0, NONE, 0, NONE, 0, NONE);
            rules("g333;e12;x12;x20;", 0, NONE, 1, 1, 1, 2);
        });
        edge("DISTANCES: V - 1, if it is WIRED with none", () -> {
            rules("g327;", 0, NONE, 1, 6);
            rules("g327;x16;", 0, NONE, 0, NONE);
        });
        edge("COLOURS: the lowest that none of those has", () -> {
            rules("g433;e01;e12;e02;", 1, 1, 1, 1, 1, 1);
            rules("g433;e01;e12;e02;x21;", 1, 2, 1, 2, 0, NONE);
            rules("g433;e01;e12;x01;x11;", 1, 0, 1, 2, 0, NONE);
            rules("g422;e01;x01;x11;", 1, 0, 1, 0);
            rules("g464;e50;e51;e52;x11;x22;", 1, 1, 0, NONE, 0, NONE, 0, NONE, 0, NONE, 1, 3);
        });
        edge("COLOURS: who is WIRED with none of its VALUE MAY not", () -> {
            rules("g433;", 0, NONE, 0, NONE, 0, NONE);
            rules("g433;e01;x02;", 0, NONE, 0, NONE, 0, NONE);
        });
        edge("may, becomes: BAD", () -> {
            for (String text : new String[] {"g164;", "g245;e01;", "g355;", "g464;e05;"}) {
                HomingNets x = laid(text);
                for (int i : new int[] {-1, x.count(1), LEAST, MOST}) {
                    due(text + " may " + i, x.may(i), BAD);
                    due(text + " becomes " + i, x.becomes(i), BAD);
                }
            }
        });
        edge("tokens: as bits", () -> {
            due("nobody", laid("g422;x01;e01;").tokens(), 0);
            due("all six", laid("g163;x11;x22;x31;x42;").tokens(), 63);
            due("the last of six", laid("g163;x51;").tokens(), 32);
        });
        edge("LEGAL: just one MAY (COUNTERS)", () -> {
            due("one", laid("g133;").legal(), 1);
            due("one further on", laid("g133;x02;x11;x21;").legal(), 1);
            due("two that may", laid("g133;x02;x11;").legal(), 0);
            due("all", laid("g133;x01;x10;x21;").legal(), 0);
        });
        edge("LEGAL: nobody MAY (others)", () -> {
            due("pointers, nobody", laid("g223;e01;x02;x11;").legal(), 1);
            due("pointers, one", laid("g223;e01;x02;").legal(), 0);
            due("distances, nobody", laid("g322;e01;x11;").legal(), 1);
            due("distances, one", laid("g322;e01;").legal(), 0);
            due("colours, nobody", laid("g422;e01;x11;").legal(), 1);
            due("colours, two", laid("g422;e01;").legal(), 0);
        });
        edgesOfMates();
    }

    static void mates(String text, int... want) {
        HomingNets x = laid(text);
        for (int i = 0; i < want.length; i++) {
            due(text + " mate " + i, x.mate(i), want[i]);
        }
    }

    static void edgesOfMates() {
        edge("mate by POINTERS: if they are WIRED and that is at it", () -> {
            mates("g223;e01;x02;x11;", 1, 0);
            mates("g223;x02;x11;", NONE, NONE);
            mates("g223;e01;x02;", NONE, NONE);
            mates("g223;e01;x01;x12;", NONE, NONE);
            mates("g223;e01;", NONE, NONE);
            mates("g245;e03;x04;x31;", 3, NONE, NONE, 0);
        });
        edge("mate by DISTANCES: the lowest that it is WIRED with whose VALUE is 1 less", () -> {
            mates("g345;e31;e32;x11;x21;x32;", NONE, NONE, NONE, 1);
            mates("g345;e32;x11;x21;x32;", NONE, NONE, NONE, 2);
            mates("g345;e31;e32;x11;x23;x32;", NONE, NONE, 3, 1);
            mates("g345;x11;x21;x32;", NONE, NONE, NONE, NONE);
        });
        edge("mate by DISTANCES: nobody is less than 0", () -> mates("g322;e01;", NONE, NONE));
        edge("mate by DISTANCES: MACHINE 0 too", () -> mates("g323;e01;x02;x11;", 1, NONE));
        edge("mate: NO: by other KINDS", () -> {
            mates("g122;", NO, NO);
            mates("g422;e01;", NO, NO);
        });
        edge("mate: BAD ahead of NO and NONE", () -> {
            for (String text : new String[] {"g122;", "g223;", "g322;", "g422;"}) {
                HomingNets x = laid(text);
                for (int i : new int[] {-1, 2, LEAST, MOST}) {
                    due(text + " mate " + i, x.mate(i), BAD);
                }
            }
        });
    }

    // ---- promise 13

    static void edgesOfMoves() {
        edge("move: what its VALUE is then", () -> {
            HomingNets x = laid("g122;x01;x11;");
            due("round", x.move(0), 0);
            due("then the next", x.move(1), 0);
            values("moved", x, 0, 0);
            due("the last of six", laid("g163;x51;").move(5), 0);
            due("let go", laid("g223;x02;").move(0), 0);
            due("the farthest", laid("g327;").move(1), 6);
        });
        edge("move: LEGAL or not", () -> {
            HomingNets x = laid("g132;");
            due("legal", x.legal(), 1);
            due("it moves", x.move(0), 1);
        });
        edge("move: BAD", () -> {
            HomingNets x = new HomingNets();
            String before = seen(x);
            for (int i : new int[] {-1, 4, 6, LEAST, MOST}) {
                due("move " + i, x.move(i), BAD);
            }
            same("BAD moves", x, before);
        });
        edge("move: NO: it MAY not", () -> {
            HomingNets x = new HomingNets();
            String before = seen(x);
            due("move 0", x.move(0), NO);
            same("a NO move", x, before);
            due("nobody may", laid("g422;").move(1), NO);
        });
        edge("a MOVE is none by DAEMON 1", () -> {
            HomingNets x = new HomingNets();
            x.move(1);
            due("who moved last", x.count(7), NONE);
        });
    }

    // ---- promise 17

    static void edgesOfUndo() {
        edge("undo: NO", () -> {
            HomingNets x = new HomingNets();
            due("nothing yet", x.undo(), NO);
            x.hit(0, 0);
            due("one", x.undo(), 0);
            due("no more", x.undo(), NO);
            values("as at first", x, 3, 1, 4, 2);
        });
        edge("the last 6 can be", () -> {
            HomingNets x = laid("g127;");
            for (int k = 1; k <= 6; k++) {
                x.turn(k);
                due("changes", x.count(5), k);
            }
            x.turn(7);
            due("not seven", x.count(5), 6);
            for (int k = 6; k >= 1; k--) {
                due("undo", x.undo(), k - 1);
                due("code", x.code(), k);
            }
            due("the first one is not", x.undo(), NO);
            due("code in the end", x.code(), 1);
        });
        edge("six again behind some that were UNDONE", () -> {
            HomingNets x = laid("g127;");
            for (int k = 1; k <= 8; k++) {
                x.turn(k);
            }
            x.undo();
            x.undo();
            for (int k = 21; k <= 24; k++) {
                x.turn(k);
            }
            due("six", x.count(5), 6);
            int[] codes = {23, 22, 21, 6, 5, 4};
            for (int k = 0; k < 6; k++) {
                due("undo", x.undo(), 5 - k);
                due("code", x.code(), codes[k]);
            }
            due("no more", x.undo(), NO);
        });
        edge("A change: a VALUE told anew", () -> {
            HomingNets x = new HomingNets();
            x.hit(2, 0);
            due("undo", x.undo(), 0);
            values("undone", x, 3, 1, 4, 2);
        });
        edge("A change: all of them", () -> {
            HomingNets x = new HomingNets();
            x.turn(624);
            due("undo", x.undo(), 0);
            values("undone", x, 3, 1, 4, 2);
        });
        edge("A change: a MOVE", () -> {
            HomingNets x = new HomingNets();
            x.move(3);
            due("undo", x.undo(), 0);
            values("undone", x, 3, 1, 4, 2);
        });
        edge("A change: a RUN of one STEP at least", () -> {
            HomingNets x = new HomingNets();
            x.run(0, 0, 1);
            due("one step", x.count(5), 1);
            x.run(0, 0, 300);
            due("another run, of one step too", x.count(5), 2);
            due("none", x.run(0, 0, 300), 0);
            due("no change", x.count(5), 2);
            due("undo", x.undo(), 1);
            values("undone", x, 3, 3, 4, 2);
            due("undo again", x.undo(), 0);
            values("undone again", x, 3, 1, 4, 2);
        });
        edge("a RUN of many STEPS is one change", () -> {
            HomingNets x = laid("g422;e01;");
            x.run(2, 0, 299);
            due("one", x.count(5), 1);
            due("undo", x.undo(), 0);
            due("as ahead of all its steps", x.code(), 0);
        });
        edge("a RUN that comes back to where it was is a change too", () -> {
            HomingNets x = laid("g422;e01;");
            due("two steps", x.run(2, 0, 2), 2);
            due("the same state", x.code(), 0);
            due("a change", x.count(5), 1);
            due("undo", x.undo(), 0);
        });
        edge("the last 6 can be: who moved last with each of them", () -> {
            HomingNets x = laid("g464;e01;e12;e23;e34;e45;e50;");
            for (int k = 0; k < 5; k++) {
                x.run(1, 0, 1);
                x.turn(0);
            }
            int[] last = {4, 3, 3, 2, 2, 1};
            for (int k = 0; k < 6; k++) {
                due("undo", x.undo(), 5 - k);
                due("who moved last", x.count(7), last[k]);
            }
            due("no more", x.undo(), NO);
        });
        edge("asking is no change", () -> {
            HomingNets x = new HomingNets();
            String before = seen(x);
            x.next(4);
            x.loop(4, 1);
            x.storm(1, 5, 200, 1);
            x.state(0, 0);
            x.all(5);
            x.within(2, 0);
            same("asking", x, before);
        });
        edge("UNDONE: who moved last by DAEMON 1 is as ahead of it", () -> {
            HomingNets x = new HomingNets();
            x.run(1, 0, 1);
            x.turn(358);
            x.run(1, 0, 1);
            due("machine 2", x.count(7), 2);
            due("undo the run", x.undo(), 2);
            due("machine 1", x.count(7), 1);
            due("next behind it", x.next(1), 4);
            due("undo the turn", x.undo(), 1);
            due("machine 1 still", x.count(7), 1);
            due("undo the first run", x.undo(), 0);
            due("nobody", x.count(7), NONE);
            due("next is the lowest", x.next(1), 2);
        });
    }

    // ---- the daemons

    static void edgesOfDaemons() {
        edge("DAEMON 0: the lowest", () -> {
            due("of three", new HomingNets().next(0), 2);
            due("of one, the last", laid("g163;x51;").next(0), 32);
            due("of all", laid("g163;x11;x22;x31;x42;").next(0), 1);
        });
        edge("DAEMON 1: at first the lowest", () -> {
            due("of three", new HomingNets().next(1), 2);
            due("of all", laid("g163;x11;x22;x31;x42;").next(1), 1);
        });
        edge("DAEMON 1: the next one behind, all in a ring", () -> {
            HomingNets x = laid("g462;e01;e23;e45;");
            for (int bits = 1; bits <= 16; bits *= 4) {
                due("next in the row", x.next(1), bits);
                due("a step", x.run(1, 0, 1), 1);
            }
            due("legal by three", x.legal(), 1);
            x.turn(0);
            due("behind 4", x.next(1), 32);
            x.run(1, 0, 1);
            due("5 moved last", x.count(7), 5);
            due("round, to the lowest that may", x.next(1), 1);
        });
        edge("DAEMON 1: the one itself, if it alone MAY", () -> {
            HomingNets x = laid("g322;e01;x01;x11;");
            x.run(1, 0, 1);
            x.hit(0, 1);
            due("next", x.next(1), 1);
            due("it moves", x.run(1, 0, 300), 1);
            HomingNets y = laid("g163;x51;");
            due("the last one of six is legal, yet next", y.next(1), 32);
        });
        edge("DAEMON 1: this is kept", () -> {
            HomingNets x = new HomingNets();
            x.run(1, 0, 1);
            x.turn(358);
            x.run(0, 0, 1);
            x.turn(358);
            x.run(2, 0, 1);
            x.turn(358);
            x.run(3, 0, 1);
            x.turn(358);
            x.run(4, 0, 1);
            x.turn(358);
            x.move(3);
            due("by other daemons nothing is", x.count(7), 1);
            x.turn(358);
            x.wipe();
            due("behind 1", x.next(1), 4);
        });
        edge("DAEMON 2: all, at once (each by the state ahead)", () -> {
            HomingNets x = new HomingNets();
            due("who", x.next(2), 14);
            x.run(2, 0, 1);
            values("at once", x, 3, 3, 1, 4);
            HomingNets y = laid("g223;e01;");
            y.run(2, 0, 1);
            values("both at one another", y, 2, 1);
        });
        edge("DAEMON 3: DRAW of the 0th STEP, modulo as many as MAY", () -> {
            // 1, 22803 and 48233 modulo 3 are 1, 0 and 2; those who may are 1, 2 and 3.
            int[][] runs = {{0, 283}, {1, 368}, {8, 608}};
            for (int[] r : runs) {
                HomingNets x = new HomingNets();
                due("a step by " + r[0], x.run(3, r[0], 1), 1);
                due("state by " + r[0], x.code(), r[1]);
            }
            // By 9999 it is 51303, which modulo 3 is 0.
            HomingNets y = new HomingNets();
            due("a step by 9999", y.run(3, 9999, 1), 1);
            due("state by 9999", y.code(), 368);
        });
        edge("DAEMON 3: DRAW of the next STEP", () -> {
            // 41487 modulo 2 is 1: of 1 and 3 the latter.
            HomingNets x = new HomingNets();
            due("two steps", x.run(3, 0, 300), 2);
            values("two steps", x, 3, 1, 1, 1);
        });
        edge("DAEMON 4: EVER is more than all", () -> {
            // 1 and 2 make it legal at once, 3 makes three tokens that can go on without end.
            HomingNets x = laid("g142;x01;x21;");
            due("who may", x.tokens(), 14);
            due("behind 1", x.state(7, 0), 0);
            due("behind 2", x.state(1, 0), 0);
            due("behind 3", x.state(13, 0), EVER);
            due("next", x.next(4), 8);
        });
        edge("DAEMON 4: of several the lowest", () -> {
            due("two alike", laid("g422;e01;").next(4), 1);
            due("two alike, not 0", laid("g433;e12;").next(4), 2);
            // Of five tokens on six machines three are left at least, and these can go round without end.
            due("no end behind all five", laid("g162;x01;x21;x41;").next(4), 2);
        });
        edge("DAEMON 4: asked ahead of all else", () -> {
            due("next", new HomingNets().next(4), 8);
            due("run", new HomingNets().run(4, 0, 300), 4);
            due("loop", new HomingNets().loop(4, 0), 5);
        });
        edge("DAEMON 4: where it is LEGAL too", () -> due("the only one", laid("g132;").next(4), 1));
    }

    // ---- promises 18 to 20

    static void edgesOfRuns() {
        edge("run: a DAEMON (0 to 4)", () -> {
            for (int daemon = 0; daemon <= 4; daemon++) {
                due("daemon " + daemon, new HomingNets().run(daemon, 0, 1), 1);
            }
            for (int daemon : new int[] {-1, 5, LEAST, MOST}) {
                due("daemon " + daemon, new HomingNets().run(daemon, 0, 1), BAD);
            }
        });
        edge("run: z (0 to 9999)", () -> {
            for (int daemon = 0; daemon <= 4; daemon++) {
                due("9999", new HomingNets().run(daemon, 9999, 1), 1);
                for (int z : new int[] {-1, 10000, LEAST, MOST}) {
                    due("daemon " + daemon + " by " + z, new HomingNets().run(daemon, z, 1), BAD);
                }
            }
        });
        edge("run: n (1 to 300)", () -> {
            HomingNets x = laid("g422;e01;");
            due("1", x.run(2, 0, 1), 1);
            due("300", x.run(2, 0, 300), 300);
            for (int n : new int[] {0, -1, 301, LEAST, MOST}) {
                due("" + n, x.run(2, 0, n), BAD);
            }
            due("BAD is no change", x.count(5), 2);
        });
        edge("run: BAD, where it is LEGAL too", () -> {
            HomingNets x = laid("g132;");
            due("daemon 5", x.run(5, 0, 1), BAD);
            due("z 10000", x.run(0, 10000, 1), BAD);
            due("n 0", x.run(0, 0, 0), BAD);
            due("n 301", x.run(0, 0, 301), BAD);
        });
        edge("run: fewer, if it is LEGAL, looked at ahead of each", () -> {
            for (int daemon = 0; daemon <= 4; daemon++) {
                HomingNets x = laid("g132;");
                due("legal at once, by " + daemon, x.run(daemon, 0, 300), 0);
                HomingNets y = laid("g322;e01;");
                due("legal behind one, by " + daemon, y.run(daemon, 0, 300), 1);
                due("then legal, by " + daemon, y.legal(), 1);
            }
        });
        edge("run: fewer, if nobody MAY", () -> {
            for (int daemon = 0; daemon <= 4; daemon++) {
                HomingNets x = laid("g422;");
                due("nobody, by " + daemon, x.run(daemon, 0, 300), 0);
                due("no change, by " + daemon, x.count(5), 0);
                due("who moved last, by " + daemon, x.count(7), NONE);
            }
        });
        edge("next: BAD", () -> {
            for (int daemon : new int[] {-1, 3, 5, LEAST, MOST}) {
                due("next " + daemon, new HomingNets().next(daemon), BAD);
                due("next, nobody, " + daemon, laid("g422;").next(daemon), BAD);
            }
        });
        edge("next: 0: nobody MAY", () -> {
            HomingNets x = laid("g422;");
            for (int daemon : new int[] {0, 1, 2, 4}) {
                due("next " + daemon, x.next(daemon), 0);
            }
        });
        edge("next: nothing is changed by asking", () -> {
            HomingNets x = new HomingNets();
            x.next(1);
            due("next again", x.next(1), 2);
            due("who moved last", x.count(7), NONE);
        });
        edge("loop: BAD", () -> {
            HomingNets x = new HomingNets();
            int[][] bad = {{-1, 0}, {1, 0}, {3, 0}, {5, 0}, {0, -1}, {0, 2}, {2, 2}, {4, -1}, {LEAST, 0}, {MOST, 1}, {0, LEAST}, {0, MOST}};
            for (int[] b : bad) {
                due("loop " + b[0] + " " + b[1], x.loop(b[0], b[1]), BAD);
            }
        });
        edge("loop: where nobody MAY, nobody moves", () -> {
            HomingNets x = laid("g422;");
            for (int daemon : new int[] {0, 2, 4}) {
                due("behind how many, " + daemon, x.loop(daemon, 0), 0);
                due("in how many, " + daemon, x.loop(daemon, 1), 1);
            }
        });
        edge("loop: it comes to where nobody MAY", () -> {
            HomingNets x = laid("g322;e01;");
            for (int daemon : new int[] {0, 2, 4}) {
                due("behind how many, " + daemon, x.loop(daemon, 0), 1);
                due("in how many, " + daemon, x.loop(daemon, 1), 1);
            }
        });
        edge("loop: LEGAL or not", () -> {
            HomingNets x = laid("g122;");
            due("one token through four states", x.loop(0, 1), 4);
            due("from the first", x.loop(0, 0), 0);
            // One token goes N times round V values: 6 times 4 states of 4096.
            HomingNets y = laid("g164;");
            due("one token through 24 states", y.loop(2, 1), 24);
        });
        edge("loop: a row of states ahead that do not come again", () -> {
            // Two steps make it legal; from there on the one token goes round.
            HomingNets x = new HomingNets();
            due("behind two", x.loop(0, 0), 2);
            due("4 machines times 5 values", x.loop(0, 1), 20);
        });
        edge("loop: nothing is changed by asking", () -> {
            HomingNets x = new HomingNets();
            String before = seen(x);
            x.loop(0, 0);
            x.loop(2, 1);
            x.loop(4, 0);
            same("loop", x, before);
        });
    }

    // ---- promise 21

    static void storms(String text, int daemon, int z, int n, int... want) {
        HomingNets x = laid(text);
        for (int what = 0; what < want.length; what++) {
            due(text + " storm " + daemon + " " + z + " " + n + " " + what, x.storm(daemon, z, n, what), want[what]);
        }
    }

    static void edgesOfStorms() {
        String first = "g145;x03;x11;x24;x32;";
        edge("storm: DAEMON 0, 1 or 2", () -> {
            HomingNets x = laid("g422;");
            for (int daemon = 0; daemon <= 2; daemon++) {
                due("daemon " + daemon, x.storm(daemon, 0, 1, 0), 1);
            }
            for (int daemon : new int[] {-1, 3, 4, 5, LEAST, MOST}) {
                due("daemon " + daemon, x.storm(daemon, 0, 1, 0), BAD);
            }
        });
        edge("storm: z (0 to 9999)", () -> {
            HomingNets x = laid("g422;");
            due("0", x.storm(0, 0, 1, 0), 1);
            due("9999", x.storm(0, 9999, 1, 0), 1);
            for (int z : new int[] {-1, 10000, LEAST, MOST}) {
                due("" + z, x.storm(0, z, 1, 0), BAD);
            }
        });
        edge("storm: n (1 to 200)", () -> {
            HomingNets x = laid("g422;");
            due("1", x.storm(0, 0, 1, 0), 1);
            due("200", x.storm(0, 0, 200, 0), 200);
            for (int n : new int[] {0, -1, 201, 300, LEAST, MOST}) {
                due("" + n, x.storm(0, 0, n, 0), BAD);
            }
        });
        edge("storm: what (0 to 2)", () -> {
            HomingNets x = laid("g422;");
            due("2", x.storm(0, 0, 1, 2), 0);
            for (int what : new int[] {-1, 3, LEAST, MOST}) {
                due("" + what, x.storm(0, 0, 1, what), BAD);
            }
        });
        edge("storm: if DRAW modulo 8 is 0, a hit", () -> {
            // By 5 it is 56728: machine 7091 modulo 4 is 3, value 886 modulo 5 is 1. By 155 it is 80: machine 2, value 1.
            for (int daemon = 0; daemon <= 2; daemon++) {
                storms(first, daemon, 5, 1, 0, 233, 1);
                storms(first, daemon, 155, 1, 0, 283, 1);
            }
        });
        edge("storm: a hit by the VALUE that it has", () -> storms("g145;x03;x11;x24;x31;", 0, 5, 1, 0, 233, 1));
        edge("storm: else, if somebody MAY, a STEP", () -> {
            storms(first, 0, 0, 1, 0, 368, 1);
            storms(first, 1, 0, 1, 0, 368, 1);
            storms(first, 2, 0, 1, 0, 543, 1);
            storms(first, 0, 0, 2, 1, 343, 1);
        });
        edge("storm: a STEP where it is LEGAL too", () -> storms(first, 0, 0, 3, 2, 468, 1));
        edge("storm: nobody MAY", () -> storms("g422;", 0, 0, 12, 12, 0, 0));
        edge("storm: the draws go on behind a hit", () -> {
            // By 9999: two steps, then 6768 (machine 2, value 0), then a step that mends it.
            storms(first, 0, 9999, 3, 1, 268, 1);
            storms(first, 0, 9999, 4, 2, 343, 1);
        });
        edge("storm: never LEGAL", () -> {
            // None of the first twelve draws by 0 is a hit; two of one colour stay so at once.
            storms("g422;e01;", 2, 0, 11, 0, 3, 11);
            storms("g422;e01;", 2, 0, 12, 0, 0, 12);
        });
        edge("storm: from now on, and by DAEMON 1 behind who moved last", () -> {
            HomingNets x = laid("g464;e01;e12;e23;e34;e45;e50;");
            x.run(1, 0, 1);
            x.turn(0);
            due("machine 1 moves", x.storm(1, 0, 1, 1), 4);
            due("then machine 2, which has 0 and 1 beside it", x.storm(1, 0, 2, 1), 4 + 2 * 16);
            due("by DAEMON 0 machine 0 does", x.storm(0, 0, 1, 1), 1);
        });
        edge("storm: by DAEMON 1 each STEP behind the one ahead", () -> {
            // 1, 2 and 3 become 1; then 2 MAY again, but 4 is the next one.
            storms("g355;e01;e12;e23;e34;", 1, 0, 4, 0, 1405, 4);
            storms("g355;e01;e12;e23;e34;", 0, 0, 4, 0, 180, 4);
        });
        edge("storm: nothing is changed by asking", () -> {
            HomingNets x = new HomingNets();
            x.run(1, 0, 1);
            String before = seen(x);
            for (int daemon = 0; daemon <= 2; daemon++) {
                x.storm(daemon, 5, 200, 1);
            }
            same("storm", x, before);
        });
    }

    // ---- promises 22 to 25

    static void edgesOfAllStates() {
        edge("WORST: 0, if it is LEGAL", () -> due("legal", laid("g142;").state(0, 0), 0));
        edge("EVER: it can go on without end", () -> {
            // Counters come to one token by any daemon, if V is N - 1 or more.
            String[] heads = {"g122;", "g132;", "g142;", "g143;", "g152;", "g153;", "g154;", "g155;", "g162;", "g163;", "g164;"};
            int[] end = {1, 1, 0, 1, 0, 0, 1, 1, 0, 0, 0};
            for (int k = 0; k < heads.length; k++) {
                due(heads[k] + " always ends", laid(heads[k]).all(1) == 0 ? 1 : 0, end[k]);
            }
        });
        edge("state: BEST is told where WORST is EVER", () -> {
            HomingNets x = laid("g142;");
            due("worst", x.state(5, 0), EVER);
            due("best", x.state(5, 1), 1);
            due("hits", x.state(5, 2), 1);
            due("legal", x.state(5, 3), 0);
        });
        edge("state: the least and the greatest CODE", () -> {
            HomingNets x = laid("g464;e01;");
            due("least, worst", x.state(0, 0), 1);
            due("least, hits", x.state(0, 2), 1);
            due("greatest, worst", x.state(4095, 0), 1);
            due("greatest, best", x.state(4095, 1), 1);
            due("greatest, hits", x.state(4095, 2), 1);
            due("greatest, legal", x.state(4095, 3), 0);
        });
        edge("state: BAD", () -> {
            HomingNets x = laid("g122;");
            int[][] bad = {{-1, 0}, {4, 0}, {0, -1}, {0, 4}, {4, 3}, {-1, 3}, {3, 4}, {LEAST, 0}, {MOST, 2}, {0, LEAST}, {0, MOST}};
            for (int[] b : bad) {
                due("state " + b[0] + " " + b[1], x.state(b[0], b[1]), BAD);
            }
            due("4096", laid("g464;").state(4096, 0), BAD);
        });
        edge("state: whether it is LEGAL (3; 1, 0)", () -> {
            HomingNets x = laid("g422;e01;");
            int[] legal = {0, 1, 1, 0};
            for (int code = 0; code < 4; code++) {
                due("legal " + code, x.state(code, 3), legal[code]);
            }
            due("one token is", new HomingNets().state(0, 3), 1);
            due("three are not", new HomingNets().state(358, 3), 0);
        });
        edge("WORST, BEST and HITS are three", () -> {
            // Both at themselves: two let go, two take one another, in whatever order; but two hits would do.
            HomingNets x = laid("g223;e01;");
            int[] selves = {4, 4, 2, 0};
            // Three of one colour in a row: the ends move both, or the one in the middle alone.
            HomingNets y = laid("g433;e01;e12;");
            int[] alike = {2, 1, 1, 0};
            for (int what = 0; what < 4; what++) {
                due("at themselves " + what, x.state(1 + 2 * 3, what), selves[what]);
                due("of one colour " + what, y.state(0, what), alike[what]);
            }
        });
        edge("HITS: as many as MACHINES at most", () -> {
            // Only 0 1 2 3 of a path is legal; 3 3 3 0 has none of them.
            HomingNets x = laid("g344;e01;e12;e23;");
            due("all four", x.state(3 + 12 + 48, 2), 4);
            due("none", x.state(4 + 32 + 192, 2), 0);
            due("only one is legal", x.all(0), 1);
        });
        edge("all: BAD", () -> {
            for (int what : new int[] {-1, 7, LEAST, MOST}) {
                due("all " + what, new HomingNets().all(what), BAD);
            }
        });
        edge("all: 2 and 3 leave out those of EVER", () -> {
            HomingNets x = laid("g142;");
            due("eight", x.all(1), 8);
            due("the greatest of others", x.all(2), 0);
            due("the lowest CODE that has it", x.all(3), 0);
            due("together", x.all(5), 0);
            due("the greatest BEST", x.all(6), 1);
        });
        edge("all: the lowest CODE of several", () -> {
            HomingNets x = laid("g422;e01;");
            due("1 at most", x.all(2), 1);
            due("0 and 3 have it", x.all(3), 0);
            HomingNets y = laid("g422;");
            due("0 at most", y.all(2), 0);
            due("all have it", y.all(3), 0);
        });
        edge("all: all WORSTS but EVER together", () -> {
            // Only 0 1 is legal; 0 0 and 1 1 need one move, 1 0 needs two.
            HomingNets x = laid("g322;e01;");
            int[] want = {1, 0, 2, 1, 0, 4, 2};
            for (int what = 0; what < want.length; what++) {
                due("all " + what, x.all(what), want[what]);
            }
        });
        edge("all: of the net that is LAID now", () -> {
            HomingNets x = new HomingNets();
            due("at first", x.all(0), 65);
            tell(x, "g422;e01;");
            due("not till it is laid", x.all(0), 65);
            x.lay();
            due("then", x.all(0), 2);
            due("then: worst", x.state(0, 0), 1);
        });
        edge("all: by how many MOVES a LEGAL one becomes one that is not", () -> {
            for (String text : new String[] {"g122;", "g145;", "g162;", "g245;e01;e12;", "g355;e01;", "g464;e01;"}) {
                due(text, laid(text).all(4), 0);
            }
        });
        edge("NONE: no state is LEGAL, EVER: it never can be: there is no such net", EdgesTest::allCanBeLegal);
        edge("within: k (0 to N)", () -> {
            for (int n = 2; n <= 6; n++) {
                HomingNets x = laid("g4" + n + "2;e01;");
                due("all within N", x.within(n, 1), 1 << n);
                due("half of them within 0", x.within(0, 1), 1 << n - 1);
                due("N and 1", x.within(n + 1, 1), BAD);
                due("-1", x.within(-1, 1), BAD);
            }
        });
        edge("within: BAD", () -> {
            HomingNets x = laid("g422;");
            int[][] bad = {{-1, 0}, {3, 0}, {0, -1}, {0, 2}, {3, 1}, {LEAST, 0}, {MOST, 1}, {0, LEAST}, {0, MOST}};
            for (int[] b : bad) {
                due("within " + b[0] + " " + b[1], x.within(b[0], b[1]), BAD);
            }
        });
        edge("within: EVER is more than all", () -> {
            HomingNets x = laid("g142;");
            due("0 hits", x.within(0, 0), 0);
            due("1 hit", x.within(1, 0), EVER);
            due("all", x.within(4, 0), EVER);
        });
        edge("within: k or fewer", () -> {
            // Only 0 1 2 3 is legal: 4 over k times 3 to the k states have k hits.
            HomingNets x = laid("g344;e01;e12;e23;");
            int[] many = {1, 13, 67, 175, 256};
            for (int k = 0; k <= 4; k++) {
                due("within " + k, x.within(k, 1), many[k]);
            }
        });
        edge("count: BAD", () -> {
            for (int what : new int[] {-1, 8, 9, LEAST, MOST}) {
                due("count " + what, new HomingNets().count(what), BAD);
            }
        });
        edge("count: WIRES, none and all", () -> {
            due("counters", laid("g164;").count(3), 0);
            due("none", laid("g464;").count(3), 0);
            due("all of four", laid("g245;e01;e02;e03;e12;e13;e23;").count(3), 6);
            due("all of five", laid("g355;e01;e02;e03;e04;e12;e13;e14;e23;e24;e34;").count(3), 10);
        });
        edge("count: who moved last by DAEMON 1 (NONE: nobody)", () -> {
            HomingNets x = laid("g322;e01;x01;x11;");
            due("nobody", x.count(7), NONE);
            x.run(1, 0, 1);
            due("0 is not nobody", x.count(7), 0);
        });
    }

    static void allCanBeLegal() {
        for (String head : new String[] {"g122;", "g127;", "g164;", "g223;", "g234;", "g322;", "g333;", "g422;", "g432;", "g433;", "g434;"}) {
            int n = head.charAt(2) - '0';
            for (int wires = 0; wires < (head.charAt(1) == '1' ? 1 : n == 2 ? 2 : 8); wires++) {
                String text = head + ((wires & 1) != 0 ? "e01;" : "") + ((wires & 2) != 0 ? "e12;" : "") + ((wires & 4) != 0 ? "e02;" : "");
                HomingNets x = told(text);
                if (x.lay() == NO) {
                    due(text + ": only for two colours too few", text.startsWith("g432;") ? 1 : 0, 1);
                    continue;
                }
                due(text + ": some are legal", x.all(0) > 0 ? 1 : 0, 1);
                due(text + ": all are within N hits", x.within(n, 1), x.count(4));
                due(text + ": some within 0", x.within(0, 1), x.all(0));
                int never = 0;
                for (int code = 0; code < x.count(4) && code < 60; code++) {
                    never += x.state(code, 1) < 0 || x.state(code, 2) < 0 ? 1 : 0;
                }
                due(text + ": all can be", never, 0);
            }
        }
    }

    // ---- of several the first in the order told; nothing changes then

    static void edgesOfRefusals() {
        edge("Of several the first in the order told: BAD ahead of NO", () -> {
            HomingNets x = new HomingNets();
            due("hit: no machine, by a value of none", x.hit(4, 3), BAD);
            due("hit: such a machine, by no value", x.hit(0, 5), BAD);
            due("move: none", x.move(4), BAD);
            due("mate: none", x.mate(4), BAD);
            due("turn: none", x.turn(625), BAD);
        });
        edge("nothing changes then: all calls that are refused", () -> {
            HomingNets x = laid("g145;x03;x11;x24;x32;");
            x.run(1, 0, 1);
            x.turn(358);
            x.write('x');
            String before = seen(x);
            refuse(x);
            same("what was refused", x, before);
            values("what was refused", x, 3, 1, 4, 2);
            due("undo", x.undo(), 1);
            due("undo the run", x.undo(), 0);
            due("who moved last", x.count(7), NONE);
            due("undo no more", x.undo(), NO);
            due("asked again", x.undo(), NO);
            values("undo that was refused", x, 3, 1, 4, 2);
        });
    }

    static void refuse(HomingNets x) {
        int[] answers = {x.write(31), x.write(127), x.value(4), x.hit(4, 0), x.hit(0, 5), x.turn(625), x.turn(-1), x.wired(1, 1),
            x.may(4), x.becomes(4), x.move(4), x.mate(-1), x.run(5, 0, 1), x.run(1, 10000, 1), x.run(1, 0, 0), x.run(1, 0, 301),
            x.next(3), x.loop(1, 0), x.storm(3, 0, 1, 0), x.storm(1, 0, 201, 0), x.state(625, 0), x.all(7), x.within(5, 0), x.count(8)};
        for (int k = 0; k < answers.length; k++) {
            due("refusal " + k, answers[k], BAD);
        }
        int[] noes = {x.lay(), x.hit(0, 3), x.turn(358), x.move(0), x.mate(0)};
        for (int k = 0; k < noes.length; k++) {
            due("NO " + k, noes[k], NO);
        }
        due("NONE", x.becomes(0), NONE);
    }
}
