/**
 * Each promise by cases that can be worked out by hand. Many of them have people
 * who always find for A (sort 0), always for B (sort 1), or as often as not (2).
 */
public final class PromisesTest extends Courts {
    private static void newObject() {
        StruckJury x = new StruckJury();
        for (int what = 0; what <= 16; what++) {
            due("new: count(" + what + ")", x.count(what), what == 10 ? -9 : 0);
        }
        due("new: NEEDED", x.set(0, 1), 3);
        due("new: STRIKES of A", x.set(1, 0), 1);
        due("new: STRIKES of B", x.set(2, 0), 1);
        due("new: HOW", x.set(3, 0), 0);
        due("new: TRUTH", x.set(4, 100), 50);
        for (int sort = 0; sort < 6; sort++) {
            x.person(sort);
            due("new: LEAN 0 of " + sort, x.chance(1 << sort), 5000);
        }
        x.set(4, 0);
        due("new: LEAN 1", x.chance(32), 5000);
    }

    private static void sort() {
        StruckJury x = new StruckJury();
        due("sort(0, 0, 100)", x.sort(0, 0, 100), 1);
        due("sort(5, 100, 0)", x.sort(5, 100, 0), 1);
        due("sort(-1, ..)", x.sort(-1, -1, 101), -1);
        due("sort(6, ..)", x.sort(6, 0, 0), -1);
        due("sort(0, -1, 101)", x.sort(0, -1, 101), -4);
        due("sort(0, 101, -1)", x.sort(0, 101, -1), -4);
        due("sort(0, 101, 0)", x.sort(0, 101, 0), -6);
        due("sort(0, 0, 101)", x.sort(0, 0, 101), -6);
        due("sort(LOW, BIG, LOW)", x.sort(LOW, BIG, LOW), -1);
        due("REFUSALS -1", x.count(11), 3);
        due("REFUSALS -4", x.count(14), 2);
        due("REFUSALS -6", x.count(16), 2);
        x.person(0);
        x.person(5);
        x.set(0, 1);
        x.set(4, 75);
        due("the leans of 0", x.chance(1), 2500);
        due("the leans of 5", x.chance(2), 7500);
    }

    private static void person() {
        StruckJury x = new StruckJury();
        due("person(6)", x.person(6), -1);
        due("person(-1)", x.person(-1), -1);
        for (int i = 0; i < 12; i++) {
            due("person", x.person(i % 6), i);
        }
        due("a 13th", x.person(0), -6);
        due("a 13th of no sort", x.person(6), -1);
        due("count(0)", x.count(0), 12);
        due("count(4)", x.count(4), 2);
    }

    private static void takeBack() {
        StruckJury x = new StruckJury();
        due("takeBack() of none", x.takeBack(), -3);
        x.person(4);
        x.person(5);
        due("takeBack()", x.takeBack(), 1);
        due("the latest went", x.count(9), 0);
        due("the first stays", x.count(8), 1);
        due("takeBack()", x.takeBack(), 0);
        due("takeBack() again", x.takeBack(), -3);
        due("REFUSALS -3", x.count(13), 2);
        due("person", x.person(2), 0);
    }

    private static void set() {
        StruckJury x = new StruckJury();
        int[] least = {1, 0, 0, 0, 0};
        int[] greatest = {7, 3, 3, 1, 100};
        for (int what = 0; what < 5; what++) {
            x.set(what, least[what]);
            due("set: it was the least", x.set(what, greatest[what]), least[what]);
            due("set: it was the greatest", x.set(what, least[what]), greatest[what]);
            due("set: below", x.set(what, least[what] - 1), -4);
            due("set: above", x.set(what, greatest[what] + 1), -6);
            due("set: far below", x.set(what, LOW), -4);
            due("set: far above", x.set(what, BIG), -6);
            due("set: nothing changed", x.set(what, least[what]), least[what]);
        }
        due("set(-1, -1)", x.set(-1, -1), -2);
        due("set(5, 200)", x.set(5, 200), -2);
        due("REFUSALS -2", x.count(12), 2);
    }

    private static void feed() {
        StruckJury x = new StruckJury();
        due("feed(0)", x.feed(0, 0), -4);
        due("feed(LOW)", x.feed(LOW, 0), -4);
        due("feed(9)", x.feed(9, 0), -6);
        due("feed(BIG)", x.feed(BIG, 0), -6);
        for (int i = 1; i <= 9; i++) {
            due("feed(8)", x.feed(8, -1L), 8 * i);
        }
        due("feed(7)", x.feed(7, 0), 79);
        due("feed(2) at 79", x.feed(2, 0), -6);
        due("feed(1) at 79", x.feed(1, 0), 80);
        due("feed(1) at 80", x.feed(1, 0), -6);
        due("count(2)", x.count(2), 80);
        due("court()", x.court(), -20);
        due("count(2)", x.count(2), 0);
        due("the lowest first", x.feed(3, 0x3B376EL), 3);
        due("n7;", x.court(), 1);
        due("NEEDED", x.set(0, 1), 7);
        x.feed(3, 0x55667788993B316EL);
        due("bytes above the n-th do not come", x.court(), 1);
    }

    private static void court() {
        StruckJury x = new StruckJury();
        due("no text", x.court(), 0);
        due("all there is", read(x, "s5:7,100;p012345;n7;x32;h1;t0;p0;"), 7);
        due("PEOPLE", x.count(0), 7);
        due("SORT 0", x.count(4), 2);
        due("NEEDED", x.set(0, 1), 7);
        due("STRIKES of A", x.set(1, 0), 3);
        due("STRIKES of B", x.set(2, 0), 2);
        due("HOW", x.set(3, 0), 1);
        due("TRUTH", x.set(4, 100), 0);
        due("LEAN 0", x.chance(32), 700);
        x.set(4, 0);
        due("LEAN 1", x.chance(32), 10000);
        for (int i = 11; i <= 16; i++) {
            due("nothing is refused", x.count(i), 0);
        }
        faults();
        wholeAheadOfFault();
        twelvePeople();
    }

    private static void faults() {
        String[] texts = {
            "q", "", " n1;", "n1; ", "n1;;", "S0:1,1;", "s", "s6:1,1;", "s0", "s0;", "s0:", "s0:,1;", "s0:1",
            "s0:1;1;", "s0:1,", "s0:1,;", "s0:1,1", "s0:1,1,", "s0:00,1;", "s0:01,1;", "s0:101,1;", "s0:1,101;",
            "s0:100,1000;", "s0:999", "s0:1x", "p", "p;", "p6", "p0", "p0 ;", "p06;", "n", "n0;", "n8;", "n;", "n1",
            "n11;", "x", "x4", "x0", "x04;", "x0;", "x00", "x000;", "h", "h2;", "h1", "h01;", "t", "t;", "t101;",
            "t1000;", "t00;", "t100", "t-1;", "t5,", "t1011;", "n1;n1;t101;", "n1" + (char) 200, "n" + (char) 177 + ";"};
        int[] places = {
            0, -1, 0, 3, 3, 0, 1, 1, 2, 2, 3, 3, 4,
            4, 5, 5, 6, 6, 4, 4, 3, 5,
            10, 3, 4, 1, 1, 1, 2, 2, 2, 1, 1, 1, 1, 2,
            2, 1, 1, 2, 2, 2, 3, 3, 1, 1, 2, 2, 1, 1, 1,
            4, 2, 4, 1, 2, 1, 7, 2, 1};
        for (int i = 0; i < texts.length; i++) {
            StruckJury x = new StruckJury();
            int want = places[i] < 0 ? 0 : -20 - places[i];
            due("court() of '" + texts[i] + "'", read(x, texts[i]), want);
            due("the text is none then", x.count(2), 0);
        }
    }

    private static void wholeAheadOfFault() {
        StruckJury x = new StruckJury();
        due("a fault behind", read(x, "n2;p01;x33;p23"), -34);
        due("NEEDED came", x.set(0, 1), 2);
        due("STRIKES came", x.set(1, 0), 3);
        due("PEOPLE of what is whole", x.count(0), 2);
        due("a fault", read(x, "t9;t8"), -25);
        due("TRUTH of what is whole", x.set(4, 50), 9);
        due("a fault", read(x, "s0:1,1;s0:2,2"), -33);
        x.set(2, 0);
        due("LEANS of what is whole", x.chance(1), 100);
        due("a fault", read(x, "x12;x3"), -26);
        due("STRIKES of what is whole", x.set(1, 0), 1);
        due("a fault is not counted", x.count(11) + x.count(12) + x.count(13) + x.count(14) + x.count(16), 0);
    }

    private static void twelvePeople() {
        StruckJury x = new StruckJury();
        due("twelve at once", read(x, "p012345012345;"), 1);
        due("PEOPLE", x.count(0), 12);
        due("a 13th", read(x, "p0;"), -21);
        due("a 13th that is no sort", read(x, "p9;"), -21);
        x = new StruckJury();
        due("thirteen", read(x, "p0000000000001;"), -33);
        due("none of them came", x.count(0), 0);
        due("ten and two", read(x, "p0000000000;p00;"), 2);
        x.takeBack();
        due("one and one more", read(x, "p05;"), -22);
        due("neither came", x.count(0), 11);
    }

    private static void chance() {
        StruckJury x = of("s0:80,30;s1:60,20;n1;t60;p001;");
        due("chance of one", x.chance(1), 60 * 80 + 40 * 30);
        due("chance of another", x.chance(4), 60 * 60 + 40 * 20);
        x.set(0, 2);
        due("MOST of two are both", x.chance(5), 60 * 80 * 60 + 40 * 30 * 20);
        x.set(3, 1);
        due("ALL of two", x.chance(5), 60 * 80 * 60 + 40 * 30 * 20);
        x.set(0, 3);
        due("ALL of three", x.chance(7), 60 * 80 * 80 * 60 + 40 * 30 * 30 * 20);
        x.set(3, 0);
        due("MOST of three", x.chance(7),
            60 * (80 * 80 * 100 + 2 * 80 * 20 * 60) + 40 * (30 * 30 * 100 + 2 * 30 * 70 * 20));
        refused("too few", x.chance(3), -3);
        refused("nobody", x.chance(0), -3);
        refused("one who is not there", x.chance(8), -1);
        refused("one who is not there, and too few", x.chance(9), -1);
        refused("chance(-1)", x.chance(-1), -1);
        refused("chance(LOW)", x.chance(LOW), -1);
        x = of("s0:100,100;n7;p000000000000;");
        due("seven of twelve", x.chance(0xFE0), 10000000000000000L);
        refused("eight", x.chance(0xFF0), -3);
        refused("a 13th", x.chance(1 << 12), -1);
    }

    private static void right() {
        StruckJury x = of("s0:80,30;n1;t60;p000;");
        due("right of one", x.right(1), 60 * 80 + 40 * 70);
        x.set(0, 2);
        due("MOST: half is for B", x.right(3), 60 * 6400 + 40 * (10000 - 900));
        x.set(3, 1);
        due("ALL: B if none is for A", x.right(3), 60 * 6400 + 40 * 4900);
        refused("too few", x.right(1), -3);
        refused("one who is not there", x.right(8), -1);
        refused("right(-1)", x.right(-1), -1);
    }

    private static void bestAndStrike() {
        StruckJury x = three();
        due("A first", x.best(7, 11, 0), 5000);
        due("A strikes who is for B", x.strike(7, 11, 0), 1);
        due("B first", x.best(7, 11, 1), 5000);
        due("B strikes who is for A", x.strike(7, 11, 1), 0);
        due("A alone", x.best(7, 20, 0), 10000);
        due("the least of two", x.strike(7, 20, 0), 1);
        due("B is passed over", x.best(7, 20, 1), 10000);
        due("A strikes on B's turn", x.strike(7, 20, 1), 1);
        due("A is passed over", x.best(7, 2, 0), 0);
        due("B strikes on A's turn", x.strike(7, 2, 0), 0);
        due("no strikes", x.best(4, 0, 1), 5000);
        due("none to do", x.strike(4, 0, 1), -9);
        due("-9 is no refusal", x.count(13), 0);
        x.person(0);
        due("of those not CALLED, too", x.best(8, 0, 0), 10000);
        due("the least who is left", x.strike(12, 10, 0), 2);
        int[][] wrong = {
            {7, 11, 2, -1}, {7, 11, -1, -1}, {16, -1, 0, -1}, {-1, 99, 0, -1}, {7, -1, 0, -4}, {7, LOW, 0, -4},
            {7, 14, 0, -6}, {7, 40, 0, -6}, {7, 100, 0, -6}, {7, BIG, 0, -6}, {7, 33, 0, -3}, {7, 10, 0, -3},
            {15, 11, 1, -3}, {0, 0, 0, -3}};
        for (int[] w : wrong) {
            refused("best", x.best(w[0], w[1], w[2]), w[3]);
            due("strike", x.strike(w[0], w[1], w[2]), w[3]);
        }
        x = of("s0:100,100;n6;p000000000000;");
        due("twelve, three strikes each", x.best(4095, 33, 0), 100000000000000L);
        due("the least of twelve", x.strike(4095, 33, 1), 0);
    }

    private static void turnsAndOrder() {
        StruckJury x = three();
        due("turns()", x.turns(), 5000);
        due("order(0)", x.order(0), 1);
        due("order(1)", x.order(1), 0);
        due("order(2)", x.order(2), -9);
        due("order(-1)", x.order(-1), -9);
        due("order(BIG)", x.order(BIG), -9);
        x.sort(1, 100, 100);
        due("turns() after a change", x.turns(), 10000);
        x.takeBack();
        refused("turns() of too few", x.turns(), -3);
        due("order(0) of too few", x.order(0), -3);
        due("order(9) of too few", x.order(9), -3);
        x.set(1, 0);
        x.set(2, 0);
        due("turns() without strikes", x.turns(), 10000);
        due("order(0) without strikes", x.order(0), -9);
        x = of("s0:100,100;s1:0,0;n1;x31;p010101;");
        // A can spare a strike, so all stays well with the least ones.
        due("three to one", x.turns(), 10000);
        for (int i = 0; i < 4; i++) {
            due("the least by which it stays", x.order(i), i);
        }
        due("order(4)", x.order(4), -9);
        x = of("s0:100,100;s1:0,0;n1;x12;p1020;");
        due("A strikes who is for B", x.order(0), 0);
        due("B", x.order(1), 1);
        due("B again, A having none", x.order(2), 3);
        due("turns()", x.turns(), 5000);
        x = of("n7;x33;p000000000000;");
        refused("thirteen can not be CALLED", x.turns(), -3);
        due("count(1)", x.count(1), 0);
    }

    private static void row() {
        StruckJury x = three();
        due("put(-1)", x.put(-1), -4);
        due("put(12)", x.put(12), -6);
        due("put(LOW)", x.put(LOW), -4);
        for (int i = 1; i <= 6; i++) {
            due("put", x.put(i == 1 ? 11 : 0), i);
        }
        due("a seventh", x.put(0), -6);
        due("a seventh below", x.put(-1), -4);
        due("count(3)", x.count(3), 6);
        due("unput()", x.unput(), 6);
        due("unput() of none", x.unput(), 0);
        due("count(3)", x.count(3), 0);
        due("none is too few", x.lawful(), 0);
        putAll(x, 1, 0);
        due("lawful()", x.lawful(), 1);
        putAll(x, 1, 1);
        due("twice the same", x.lawful(), 0);
        putAll(x, 1);
        due("too few", x.lawful(), 0);
        putAll(x, 1, 0, 2);
        due("too many", x.lawful(), 0);
        x.person(0);
        putAll(x, 1, 3);
        due("one who is not CALLED", x.lawful(), 0);
        x.set(0, 7);
        due("not enough are CALLED", x.lawful(), -3);
        x = of("n1;x00;p0;");
        due("no strikes, none told", x.lawful(), 1);
        x.put(0);
        due("no strikes, one told", x.lawful(), 0);
    }

    private static void slip() {
        StruckJury x = three();
        refused("no row", x.slip(true), -3);
        putAll(x, 1, 0);
        due("none", x.slip(false), -9);
        due("none loses 0", x.slip(true), 0);
        putAll(x, 2, 0);
        due("A's", x.slip(false), 0);
        due("A loses", x.slip(true), 5000);
        putAll(x, 1, 2);
        due("B's", x.slip(false), 1);
        due("B loses", x.slip(true), 5000);
        putAll(x, 0, 1);
        due("the first of two", x.slip(false), 0);
        due("what the first loses", x.slip(true), 5000);
        putAll(x, 0, 0);
        refused("not LAWFUL", x.slip(false), -3);
        x.takeBack();
        refused("not enough are CALLED", x.slip(true), -3);
        x = of("s0:100,100;s1:0,0;n1;x12;p0121;");
        putAll(x, 1, 0, 3);
        due("B's second strike", x.slip(false), 2);
        due("B loses by it", x.slip(true), 5000);
    }

    private static void second() {
        // Of 1100 two must agree: {0,0} 410000, {1,1} 130000, one of each 70000.
        StruckJury x = of("s0:90,10;s1:10,50;n2;p1100;");
        due("turns()", x.turns(), 70000);
        due("who strikes last has the choice", x.second(), 60000);
        due("three", three().second(), 0);
        x.set(0, 3);
        refused("not enough are CALLED", x.second(), -3);
    }

    private static void more() {
        StruckJury x = three();
        refused("no side", x.more(2), -1);
        refused("no side", x.more(-1), -1);
        refused("nobody more is there", x.more(0), -3);
        x.person(0);
        due("A takes the one who is more", x.more(0), 5000);
        due("B needs it for the one who is more", x.more(1), 0);
        x.takeBack();
        x.person(1);
        due("A needs it", x.more(0), 0);
        due("B, with its sign turned", x.more(1), 5000);
        x = of("n1;x31;p000000;");
        refused("A has 3", x.more(0), -3);
        due("B has one", x.more(1), 0);
        x.set(2, 3);
        refused("not enough are CALLED", x.more(1), -3);
        x = of("n6;x33;p000000000000;");
        refused("twelve and 3", x.more(1), -3);
        x.set(1, 2);
        due("twelve with one more", x.more(0), 0);
    }

    private static void paper() {
        StruckJury x = three();
        due("one pair", x.rests(), 1);
        due("A's 1, B's 0", x.rest(0), 4096 * 2 + 1);
        due("rest(1)", x.rest(1), -9);
        due("rest(-1)", x.rest(-1), -9);
        long[][] values = {{0, 5000, 0}, {5000, 10000, 10000}, {0, 10000, 10000}};
        for (int a = 0; a < 3; a++) {
            for (int b = 0; b < 3; b++) {
                due("paper", x.paper(1 << a, 1 << b), values[a][b]);
            }
        }
        refused("none written", x.paper(0, 1), -3);
        refused("two written", x.paper(1, 3), -3);
        x.person(0);
        refused("one who is not CALLED", x.paper(1, 8), -1);
        refused("one who is not CALLED, two written", x.paper(9, 1), -1);
        refused("paper(-1, -1)", x.paper(-1, -1), -1);
        x.set(0, 5);
        refused("not enough are CALLED", x.paper(-1, -1), -3);
        due("rests() of not enough", x.rests(), -3);
        due("rest(0) of not enough", x.rest(0), -3);
        due("rest(-1) of not enough", x.rest(-1), -3);
        x = of("s0:100,100;s1:0,0;n2;p0010;");
        due("both wrote the first", x.paper(1, 1), 0);
        due("both wrote the third", x.paper(4, 4), 1000000);
        due("the last two", x.paper(1, 2), 0);
        x = of("s0:90,10;s1:10,50;n2;p1100;");
        due("none at rest", x.rests(), 0);
        due("rest(0) of none", x.rest(0), -9);
        x = of("n6;x33;p000000000000;");
        due("all pairs of equals", x.rests(), 220 * 220);
        due("the first", x.rest(0), 4096 * 7 + 7);
        due("the 221st", x.rest(220), 4096 * 11 + 7);
        due("the last", x.rest(220 * 220 - 1), 4096 * 0xE00 + 0xE00);
        due("one behind", x.rest(220 * 220), -9);
        x = of("n1;x00;p0;");
        due("nothing to write", x.rests(), 1);
        due("two sets of none", x.rest(0), 0);
        due("paper(0, 0)", x.paper(0, 0), 5000);
    }

    private static void coming() {
        StruckJury x = three();
        due("coming()", x.coming(), 5000);
        due("the JURY", x.come(0), 4);
        due("A's kept back", x.come(1), 0);
        due("B's kept back", x.come(2), 0);
        due("come(3)", x.come(3), -2);
        due("come(-1)", x.come(-1), -2);
        x.sort(0, 50, 50);
        x.sort(1, 50, 50);
        due("as good either way", x.coming(), 5000);
        due("the first is seated", x.come(0), 1);
        due("A strikes nobody", x.come(1), 1);
        due("B strikes nobody", x.come(2), 1);
        x.takeBack();
        refused("not enough are CALLED", x.coming(), -3);
        due("not enough are CALLED", x.come(0), -3);
        due("not enough, and no such what", x.come(9), -2);
        // A strikes the first, B the second (the third is for B): all that is left is seated.
        x = of("s0:100,100;s1:0,0;n1;x21;p10110;");
        due("four are CALLED", x.count(1), 4);
        due("coming()", x.coming(), 0);
        // B strikes the first, A keeps one back as the second is for A.
        x = of("s0:100,100;s1:0,0;n1;x11;p001;");
        due("coming()", x.coming(), 10000);
        due("B need not strike", x.come(0), 1);
        due("A keeps one", x.come(1), 1);
        due("B keeps one", x.come(2), 1);
        // A strikes the first, who is for B; B has nothing to win then.
        x = of("s0:100,100;s1:0,0;n1;x11;p100;");
        due("the second is seated", x.come(0), 2);
        due("A has none left", x.come(1), 0);
        due("B keeps one", x.come(2), 1);
        x = of("n2;x00;p00;");
        due("all are needed", x.come(0), 3);
        due("coming()", x.coming(), 250000);
    }

    private static void seldom() {
        StruckJury x = of("n2;x21;p01201;");
        refused("no row", x.seldom(0, 0), -3);
        putAll(x, 0, 1, 3);
        due("both on sort 0", x.seldom(0, 0), 1);
        due("of", x.seldom(0, 1), 10);
        due("B's strike does not count", x.seldom(1, 0), 10);
        putAll(x, 0, 3, 1);
        due("one on sort 0", x.seldom(0, 0), 10 - 3);
        due("one on sort 1", x.seldom(1, 0), 10 - 3);
        due("none on sort 5", x.seldom(5, 0), 10);
        x.person(0);
        due("only those CALLED", x.seldom(0, 0), 7);
        refused("no such sort", x.seldom(6, 9), -1);
        refused("no such sort", x.seldom(-1, 0), -1);
        refused("no such what", x.seldom(0, 2), -2);
        refused("no such what", x.seldom(0, -1), -2);
        putAll(x, 0, 3, 3);
        refused("not LAWFUL", x.seldom(0, 1), -3);
        refused("not LAWFUL, no such what", x.seldom(0, 2), -2);
        x.set(0, 7);
        refused("not enough are CALLED", x.seldom(0, 0), -3);
        x = of("n6;x33;p000000111111;");
        putAll(x, 0, 6, 1, 7, 2, 8);
        due("three of six", x.seldom(0, 0), 20);
        due("of", x.seldom(0, 1), 220);
    }

    private static void finest() {
        due("all alike: the least", of("p00000;").finest(), 0);
        // By turns one of each sort is left, on paper the first at rest are 0 and 0.
        StruckJury x = of("s1:90,90;s2:0,0;n2;h1;p1221;");
        due("paper", x.finest(), 1);
        due("its first pair", x.rest(0), 4096 + 1);
        // By turns and on paper {1, 3} is left, as they come {0, 2}.
        x = of("s0:100,10;s1:100,50;s2:10,0;n2;h1;p0122;");
        due("the JURY that comes", x.come(0), 5);
        due("the first pair", x.rest(0), 4096 * 4 + 1);
        due("coming", x.finest(), 2);
        x = of("s0:90,10;s1:10,50;n2;p1100;");
        due("none at rest", x.rests(), 0);
        due("turns, then", x.finest(), 0);
        x.set(0, 3);
        due("not enough are CALLED", x.finest(), -3);
    }

    private static void lot() {
        StruckJury x = of("s3:100,0;n1;p332;");
        due("two are always right", x.lot(0), 25000);
        due("three JURIES", x.lot(1), 3);
        x.set(0, 2);
        due("three JURIES of two", x.lot(1), 3);
        // {3,3} is always right; {3,2} is for A half the time, and for B always.
        due("RIGHT together", x.lot(0), 1000000 + 2 * 750000);
        refused("lot(2)", x.lot(2), -2);
        refused("lot(-1)", x.lot(-1), -2);
        x.set(0, 3);
        due("just as many as NEEDED", x.lot(1), 1);
        x.set(0, 4);
        refused("fewer than NEEDED", x.lot(0), -3);
        refused("fewer than NEEDED, no such what", x.lot(2), -2);
        x = of("s0:100,0;n7;x33;p000000000000;");
        due("all PEOPLE, not those CALLED", x.lot(1), 792);
        due("the greatest sum", x.lot(0), 7920000000000000000L);
    }

    private static void trade() {
        StruckJury x = of("n3;p31103;");
        due("0, 1, 3", x.trade(), 8 + 2 + 1);
        x.set(0, 4);
        due("then 1 again", x.trade(), 8 + 2 + 1 + 4);
        x.set(0, 5);
        due("then 3 again", x.trade(), 31);
        x.set(0, 6);
        due("fewer than NEEDED", x.trade(), -3);
        due("seven of one sort", of("n7;p5555555555;").trade(), 127);
    }

    private static void wrongly() {
        StruckJury x = three();
        // A holds 0 for no better than 1, and strikes him.
        due("A strikes his own", x.wrongly(0, 0, 0), -5000);
        due("as it is", x.wrongly(0, 100, 100), 0);
        due("a sort of nobody", x.wrongly(5, 0, 100), 0);
        due("nothing changed", x.turns(), 5000);
        refused("no such sort", x.wrongly(6, -1, 101), -1);
        refused("below", x.wrongly(0, 101, -1), -4);
        refused("below", x.wrongly(0, -1, 101), -4);
        refused("above", x.wrongly(0, 101, 0), -6);
        refused("above", x.wrongly(0, 0, 101), -6);
        x.takeBack();
        refused("not enough are CALLED", x.wrongly(0, 0, 0), -3);
        refused("not enough are CALLED, above", x.wrongly(0, 0, 101), -6);
    }

    private static void asked() {
        StruckJury x = of("s0:100,100;s1:0,0;n1;x00;p201;");
        due("nothing to choose", x.asked(0, 10), 0);
        refused("one who is not CALLED", x.asked(1, 10), -3);
        refused("one who is not there", x.asked(3, -1), -1);
        refused("asked(-1, 0)", x.asked(-1, 0), -1);
        refused("below", x.asked(1, -1), -4);
        refused("above", x.asked(1, 51), -6);
        refused("above", x.asked(1, BIG), -6);
        x = of("s0:100,95;s1:0,5;n1;x00;p0;");
        due("held to 100", x.asked(0, 10), 10000 + (90 + 85) * 50 - 2 * (100 + 95) * 50);
        x.takeBack();
        x.person(1);
        due("held to 0", x.asked(0, 10), (10 + 15) * 50 + 0 - 2 * 5 * 50);
        x = of("n1;x10;p22;");
        due("A strikes him if he is of the one half", x.asked(0, 20), 7000 + 5000 - 2 * 5000);
        due("he alone is asked", x.asked(1, 50), 10000 + 5000 - 2 * 5000);
        due("split by nothing", x.asked(1, 0), 0);
        due("nothing changed", x.turns(), 5000);
        x.set(0, 2);
        refused("not enough are CALLED", x.asked(0, 1), -3);
    }

    private static void image() {
        StruckJury x = three();
        due("there is none", x.restore(), -3);
        x.put(2);
        due("image()", x.image(), 3);
        x.feed(2, 0x3B70);
        x.put(1);
        x.sort(0, 1, 2);
        x.takeBack();
        x.takeBack();
        x.person(5);
        due("NEEDED", x.set(0, 7), 1);
        due("STRIKES", x.set(1, 3), 1);
        due("STRIKES", x.set(2, 2), 1);
        due("HOW", x.set(3, 1), 0);
        due("TRUTH", x.set(4, 9), 50);
        due("restore()", x.restore(), 3);
        due("SORT 1 is back", x.count(5), 1);
        due("SORT 5 is gone", x.count(9), 0);
        due("the TEXT is not of it", x.count(2), 2);
        due("the ROW is not of it", x.count(3), 2);
        due("REFUSALS are not of it", x.count(13), 1);
        due("turns()", x.turns(), 5000);
        due("NEEDED", x.set(0, 7), 1);
        due("STRIKES", x.set(1, 3), 1);
        due("STRIKES", x.set(2, 2), 1);
        due("HOW", x.set(3, 1), 0);
        due("TRUTH", x.set(4, 9), 50);
        x.takeBack();
        due("it stays", x.restore(), 3);
        due("another", x.takeBack() + x.image(), 4);
        x.person(0);
        due("the latest image", x.restore(), 2);
    }

    private static void count() {
        StruckJury x = of("n1;x20;p0012345;");
        x.feed(5, 0);
        x.put(1);
        int[] due = {7, 3, 5, 1, 2, 1, 1, 1, 1, 1, -9, 0, 0, 0, 0, 0, 0, -9};
        for (int what = 0; what < due.length; what++) {
            due("count(" + what + ")", x.count(what), due[what]);
        }
        due("count(-1)", x.count(-1), -9);
        due("count(LOW)", x.count(LOW), -9);
        due("count(BIG)", x.count(BIG), -9);
        x.chance(1 << 7);
        x.come(7);
        x.set(0, 7);
        x.turns();
        x.trade();
        x.asked(0, -1);
        x.asked(0, 51);
        int[] refusals = {1, 1, 1, 1, 0, 1};
        for (int i = 0; i < 6; i++) {
            due("REFUSALS " + (-1 - i), x.count(11 + i), refusals[i]);
        }
    }

    public static void main(String[] args) {
        newObject();
        sort();
        person();
        takeBack();
        set();
        feed();
        court();
        chance();
        right();
        bestAndStrike();
        turnsAndOrder();
        row();
        slip();
        second();
        more();
        paper();
        coming();
        seldom();
        finest();
        lot();
        trade();
        wrongly();
        asked();
        image();
        count();
        Due.end();
    }
}
