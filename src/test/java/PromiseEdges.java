/** Each sentence under a promise that names an edge, with cases by hand. */
final class PromiseEdges extends Courts {
    private final Sentences doc;
    private String heading;

    PromiseEdges(Sentences doc) {
        this.doc = doc;
    }

    private void promise(int number, String name) {
        heading = "Promise " + number + ": " + name;
    }

    private void says(String sentence) {
        doc.name(heading, sentence);
    }

    /** As BUSY, but its row is not LAWFUL. */
    private static StruckJury unlawful() {
        StruckJury x = BUSY.get();
        putAll(x, 0, 0);
        return x;
    }

    private void newObject() {
        promise(1, "A new object");
        says("No PEOPLE.");
        StruckJury x = new StruckJury();
        for (int what = 0; what <= 9; what++) {
            due("count(" + what + ")", x.count(what), 0);
        }
        for (int what = 11; what <= 16; what++) {
            due("count(" + what + ")", x.count(what), 0);
        }
        due("unput()", x.unput(), 0);
        due("court()", x.court(), 0);
        due("image()", x.image(), 0);
        due("the first", x.person(0), 0);
    }

    private void sort() {
        promise(2, "sort");
        says("LEAN 0 and 1 of a SORT: 1");
        StruckJury x = of("n1;t100;p05;");
        due("the least, the greatest", x.sort(0, 0, 100), 1);
        due("LEAN 0 of 0", x.chance(1), 0);
        due("LEAN 0 of 5 is as it was", x.chance(2), 5000);
        due("the greatest, the least", x.sort(5, 100, 0), 1);
        due("LEAN 0 of 5", x.chance(2), 10000);
        x.set(4, 0);
        due("LEAN 1 of 0", x.chance(1), 10000);
        due("LEAN 1 of 5", x.chance(2), 0);
        due("once more", x.sort(0, 1, 2), 1);
        due("LEAN 1 of 0", x.chance(1), 200);
        says("-1");
        refusedInt("sort(-1, 1, 1)", -1, BUSY, y -> y.sort(-1, 1, 1));
        refusedInt("sort(6, 1, 1)", -1, BUSY, y -> y.sort(6, 1, 1));
        refusedInt("sort(BIG, 1, 1)", -1, BUSY, y -> y.sort(BIG, 1, 1));
        refusedInt("sort(LOW, 1, 1)", -1, BUSY, y -> y.sort(LOW, 1, 1));
        says("-4");
        refusedInt("sort(0, -1, 1)", -4, BUSY, y -> y.sort(0, -1, 1));
        refusedInt("sort(0, 1, -1)", -4, BUSY, y -> y.sort(0, 1, -1));
        refusedInt("sort(0, LOW, 1)", -4, BUSY, y -> y.sort(0, LOW, 1));
        says("-6");
        refusedInt("sort(0, 101, 1)", -6, BUSY, y -> y.sort(0, 101, 1));
        refusedInt("sort(0, 1, 101)", -6, BUSY, y -> y.sort(0, 1, 101));
        refusedInt("sort(0, 1, BIG)", -6, BUSY, y -> y.sort(0, 1, BIG));
    }

    private void person() {
        promise(3, "person");
        says("A PERSON: his number");
        StruckJury x = new StruckJury();
        for (int i = 0; i < 12; i++) {
            due("person", x.person(i % 6), i);
        }
        x.takeBack();
        due("the last once more", x.person(0), 11);
        says("-1");
        refusedInt("person(-1)", -1, BUSY, y -> y.person(-1));
        refusedInt("person(6)", -1, BUSY, y -> y.person(6));
        refusedInt("person(BIG)", -1, BUSY, y -> y.person(BIG));
        refusedInt("person(LOW)", -1, BUSY, y -> y.person(LOW));
        says("-6");
        refusedInt("a 13th", -6, FULL, y -> y.person(0));
        refusedInt("a 13th of 5", -6, FULL, y -> y.person(5));
    }

    private void takeBack() {
        promise(4, "takeBack");
        says("how many are left");
        StruckJury x = of("p000000000000;");
        for (int left = 11; left >= 0; left--) {
            due("takeBack()", x.takeBack(), left);
        }
        says("-3 there is none");
        refusedInt("takeBack() of none", -3, NEW, StruckJury::takeBack);
        due("takeBack() behind the last", x.takeBack(), -3);
    }

    private void set() {
        promise(5, "set");
        says("NEEDED (what 0), STRIKES of A (1), of B (2), HOW (3), TRUTH (4): what it was");
        int[] least = {1, 0, 0, 0, 0};
        int[] greatest = {7, 3, 3, 1, 100};
        StruckJury x = new StruckJury();
        for (int what = 0; what < 5; what++) {
            x.set(what, least[what]);
        }
        for (int what = 0; what < 5; what++) {
            due("the least", x.set(what, greatest[what]), least[what]);
        }
        for (int what = 0; what < 5; what++) {
            due("the greatest", x.set(what, least[what]), greatest[what]);
        }
        says("-2");
        refusedInt("set(-1, 1)", -2, BUSY, y -> y.set(-1, 1));
        refusedInt("set(5, 1)", -2, BUSY, y -> y.set(5, 1));
        refusedInt("set(BIG, 1)", -2, BUSY, y -> y.set(BIG, 1));
        refusedInt("set(LOW, 1)", -2, BUSY, y -> y.set(LOW, 1));
        says("-4");
        for (int i = 0; i < 5; i++) {
            int what = i;
            refusedInt("below, " + what, -4, BUSY, y -> y.set(what, least[what] - 1));
            refusedInt("far below, " + what, -4, BUSY, y -> y.set(what, LOW));
        }
        says("-6");
        for (int i = 0; i < 5; i++) {
            int what = i;
            refusedInt("above, " + what, -6, BUSY, y -> y.set(what, greatest[what] + 1));
            refusedInt("far above, " + what, -6, BUSY, y -> y.set(what, BIG));
        }
    }

    private void feed() {
        promise(6, "feed");
        says("n (1 .. 8) bytes come to the TEXT, the lowest first");
        StruckJury x = new StruckJury();
        due("one", x.feed(1, 0x7777777777777700L | 'n'), 1);
        due("two", x.feed(2, 0x777777777777L << 16 | ';' << 8 | '6'), 3);
        due("n6;", x.court(), 1);
        due("NEEDED", x.set(0, 1), 6);
        due("eight", x.feed(8, 0x3B36743B32783B35L), 8);
        due("the first is no STATEMENT's", x.court(), -20);
        due("eight", x.feed(8, 0x3B3332783B35316EL), 8);
        due("n15;x23;: the third byte", x.court(), -22);
        due("eight", x.feed(8, 0x3B303031743B356EL), 8);
        due("n5;t100;", x.court(), 2);
        due("NEEDED", x.set(0, 1), 5);
        due("TRUTH", x.set(4, 50), 100);
        due("bytes above 127", x.feed(8, -1L), 8);
        due("court()", x.court(), -20);
        says("how many it has");
        for (int has = 8; has <= 80; has += 8) {
            due("feed(8)", x.feed(8, 0), has);
        }
        says("-4");
        refusedInt("feed(0)", -4, BUSY, y -> y.feed(0, 'n'));
        refusedInt("feed(-1)", -4, BUSY, y -> y.feed(-1, 'n'));
        refusedInt("feed(LOW)", -4, BUSY, y -> y.feed(LOW, 'n'));
        says("-6 (above 80, too)");
        refusedInt("feed(9)", -6, BUSY, y -> y.feed(9, 'n'));
        refusedInt("feed(BIG)", -6, BUSY, y -> y.feed(BIG, 'n'));
        refusedInt("an 81st byte", -6, FULL, y -> y.feed(1, 'n'));
        refusedInt("eight bytes more than 80", -6, FULL, y -> y.feed(8, 'n'));
        x.court();
        feedAll(x, "n1;".repeat(25));
        due("six at 75", x.feed(6, 0), -6);
        due("none of them came", x.count(2), 75);
        due("five at 75", x.feed(5, 0), 80);
    }

    private void court() {
        promise(7, "court");
        says("The TEXT, which has none then, is a COURT");
        StruckJury x = new StruckJury();
        read(x, "n1;");
        due("none then", x.count(2), 0);
        read(x, "n1;q");
        due("none then, with a FAULT", x.count(2), 0);
        due("80 bytes again", read(x, "n1;".repeat(26) + "q"), -98);
        due("80 bytes again", read(x, "n1;".repeat(26)), 26);
        says("how many STATEMENTS came");
        due("none", x.court(), 0);
        due("one", read(x, "h1;"), 1);
        due("the same twice", read(x, "h1;h1;"), 2);
        due("as many as 80 bytes can hold", read(x, "h1;".repeat(26)), 26);
        says("or, if it has a FAULT, -20 less its place");
        due("the first", read(x, "q"), -20);
        due("the last", read(x, "h1;".repeat(26) + "hq"), -99);
        due("the end", read(x, "h1;".repeat(26) + "h1"), -100);
        says("(nothing is counted)");
        for (int what = 11; what <= 16; what++) {
            due("count(" + what + ")", x.count(what), 0);
        }
    }

    private void chanceAndRight() {
        promise(8, "chance");
        says("-1 (PEOPLE that are not there)");
        refusedLong("chance(16)", -1, BUSY, y -> y.chance(16));
        refusedLong("chance(17)", -1, BUSY, y -> y.chance(17));
        refusedLong("chance(-1)", -1, BUSY, y -> y.chance(-1));
        refusedLong("chance(LOW)", -1, BUSY, y -> y.chance(LOW));
        refusedLong("chance(1), nobody is there", -1, NEW, y -> y.chance(1));
        refusedLong("chance(4096)", -1, FULL, y -> y.chance(4096));
        due("the last who is there", FULL.get().chance(2048), 60 * 50 + 40 * 50);
        says("-3 not just NEEDED");
        refusedLong("chance(0)", -3, BUSY, y -> y.chance(0));
        refusedLong("chance(3)", -3, BUSY, y -> y.chance(3));
        due("he who is not CALLED", BUSY.get().chance(8), 60 * 70 + 40 * 20);

        promise(9, "right");
        says("Refused likewise");
        refusedLong("right(16)", -1, BUSY, y -> y.right(16));
        refusedLong("right(-1)", -1, BUSY, y -> y.right(-1));
        refusedLong("right(LOW)", -1, BUSY, y -> y.right(LOW));
        refusedLong("right(4096)", -1, FULL, y -> y.right(4096));
        refusedLong("right(0)", -3, BUSY, y -> y.right(0));
        refusedLong("right(3)", -3, BUSY, y -> y.right(3));
        due("he who is not CALLED", BUSY.get().right(8), 60 * 70 + 40 * 80);
    }

    private void bestAndStrike() {
        promise(10, "best");
        says("BEST by TURNS from those left (bits), strikes left (10 times A's and B's), whose turn: VALUE");
        due("none left to strike", BUSY.get().best(8, 0, 0), 60 * 70 + 40 * 20);
        due("twelve, three each", of("n6;x00;s0:100,100;p000000000000;").best(4095, 33, 1), 100000000000000L);
        due("ten, three and none", of("n7;x00;s0:100,100;p000000000000;").best(0xFFC, 30, 1), 10000000000000000L);
        says("-1 side, PEOPLE");
        eachLeft(-1, new int[][] {{7, 11, 2}, {7, 11, -1}, {7, 11, BIG}, {7, 11, LOW}, {19, 11, 0}, {-1, 11, 0}, {LOW, 0, 1}});
        says("-4");
        eachLeft(-4, new int[][] {{7, -1, 0}, {7, -11, 1}, {7, LOW, 0}});
        says("-6 (each 0 .. 3)");
        eachLeft(-6, new int[][] {{15, 4, 0}, {15, 40, 0}, {15, 9, 1}, {15, 34, 0}, {15, 43, 0}, {15, 100, 1}, {15, BIG, 0}});
        due("3 of B's", BUSY.get().best(15, 3, 0), 0);
        due("3 of A's", BUSY.get().best(15, 30, 0), 10000);
        says("-3 not NEEDED and strikes together");
        eachLeft(-3, new int[][] {{7, 10, 0}, {7, 21, 0}, {15, 11, 0}, {0, 0, 0}, {3, 0, 1}, {15, 33, 1}});

        promise(11, "strike");
        says("-9 there is none to do");
        StruckJury x = BUSY.get();
        due("no strikes, A's turn", x.strike(1, 0, 0), -9);
        due("no strikes, B's turn", x.strike(8, 0, 1), -9);
        due("it is not counted", x.count(11) + x.count(12) + x.count(13) + x.count(14) + x.count(15) + x.count(16), 0);
        says("Refused likewise");
        int[][] wrong = {{7, 11, 2, -1}, {7, 11, -1, -1}, {19, 11, 0, -1}, {-1, 11, 0, -1}, {7, -1, 0, -4}, {7, LOW, 0, -4},
            {15, 4, 0, -6}, {15, 40, 0, -6}, {15, BIG, 0, -6}, {7, 10, 0, -3}, {15, 11, 0, -3}, {0, 0, 0, -3}, {3, 0, 1, -3}};
        for (int[] w : wrong) {
            String call = "strike(" + w[0] + ", " + w[1] + ", " + w[2] + ")";
            refusedInt(call, w[3], BUSY, y -> y.strike(w[0], w[1], w[2]));
        }
    }

    private static void eachLeft(int number, int[][] wrong) {
        for (int[] w : wrong) {
            String call = "best(" + w[0] + ", " + w[1] + ", " + w[2] + ")";
            refusedLong(call, number, BUSY, y -> y.best(w[0], w[1], w[2]));
        }
    }

    private void turnsAndOrder() {
        promise(12, "turns");
        says("VALUE by TURNS from the first on (A first). -3.");
        refusedLong("turns()", -3, FEW, StruckJury::turns);
        refusedLong("turns(), nobody is there", -3, NEW, StruckJury::turns);
        due("A first", of("s0:90,10;s1:10,50;n2;p1100;").turns(), 70000);
        due("just one", of("n1;x00;p0;").turns(), 5000);

        promise(13, "order");
        says("-9 none such");
        StruckJury x = BUSY.get();
        int[] none = {-1, 2, BIG, LOW};
        for (int i : none) {
            due("order(" + i + ")", x.order(i), -9);
        }
        due("it is not counted", x.count(11) + x.count(12) + x.count(13) + x.count(14) + x.count(15) + x.count(16), 0);
        due("no strikes", of("n1;x00;p0;").order(0), -9);
        due("the last of six", of("n6;x33;p000000000000;").order(5), 5);
        due("behind the last of six", of("n6;x33;p000000000000;").order(6), -9);
        says("-9 none such. -3.");
        refusedInt("order(0)", -3, FEW, y -> y.order(0));
        refusedInt("order(1)", -3, FEW, y -> y.order(1));
    }

    private void row() {
        promise(14, "put");
        says("A strike more of the ROW: how many");
        StruckJury x = new StruckJury();
        for (int i = 1; i <= 6; i++) {
            due("put", x.put(i == 1 ? 0 : 11), i);
        }
        says("-4");
        refusedInt("put(-1)", -4, BUSY, y -> y.put(-1));
        refusedInt("put(LOW)", -4, BUSY, y -> y.put(LOW));
        says("-6 (11; 6, too)");
        refusedInt("put(12)", -6, BUSY, y -> y.put(12));
        refusedInt("put(BIG)", -6, BUSY, y -> y.put(BIG));
        refusedInt("a seventh", -6, FULL, y -> y.put(0));
        due("11 may be put", BUSY.get().put(11), 3);
        due("a seventh behind six", x.put(11), -6);

        promise(15, "unput");
        says("The ROW has none any more: how many it had");
        due("six", x.unput(), 6);
        due("none", x.unput(), 0);
        due("none are left", x.count(3), 0);
        due("the first again", x.put(11), 1);
        due("one", x.unput(), 1);

        promise(16, "lawful");
        says("Whether the ROW is LAWFUL: 1, 0");
        due("LAWFUL", BUSY.get().lawful(), 1);
        due("not LAWFUL", unlawful().lawful(), 0);
        due("no ROW", three().lawful(), 0);
        due("no ROW, no STRIKES", of("n1;x00;p0;").lawful(), 1);
        due("six", FULL.get().lawful(), 0);
        says("1, 0. -3.");
        refusedInt("lawful()", -3, FEW, StruckJury::lawful);
        refusedInt("lawful(), nobody is there", -3, NEW, StruckJury::lawful);
    }

    private void slip() {
        promise(17, "slip");
        says("the place (loss false; -9 none), how much it loses (0 none)");
        StruckJury x = three();
        putAll(x, 1, 0);
        due("none", x.slip(false), -9);
        due("none loses", x.slip(true), 0);
        due("it is not counted", x.count(11) + x.count(12) + x.count(13) + x.count(14) + x.count(15) + x.count(16), 0);
        putAll(x, 2, 0);
        due("the first place", x.slip(false), 0);
        due("what it loses", x.slip(true), 5000);
        due("no strikes", of("n1;x00;p0;").slip(false), -9);
        due("no strikes lose", of("n1;x00;p0;").slip(true), 0);
        says("-3 (not LAWFUL, too)");
        refusedLong("slip(false), not LAWFUL", -3, PromiseEdges::unlawful, y -> y.slip(false));
        refusedLong("slip(true), not LAWFUL", -3, PromiseEdges::unlawful, y -> y.slip(true));
        refusedLong("slip(false), no row", -3, Courts::three, y -> y.slip(false));
        refusedLong("slip(false), not enough", -3, FEW, y -> y.slip(false));
        refusedLong("slip(true), not enough", -3, FEW, y -> y.slip(true));
    }

    private void secondAndMore() {
        promise(18, "second");
        says("-3");
        refusedLong("second()", -3, FEW, StruckJury::second);
        refusedLong("second(), nobody is there", -3, NEW, StruckJury::second);

        promise(19, "more");
        says("-1");
        int[] sides = {2, -1, BIG, LOW};
        for (int side : sides) {
            refusedLong("more(" + side + ")", -1, BUSY, y -> y.more(side));
        }
        says("-3");
        for (int i = 0; i < 2; i++) {
            int side = i;
            refusedLong("more, not enough, " + side, -3, FEW, y -> y.more(side));
            refusedLong("more, nobody more, " + side, -3, Courts::three, y -> y.more(side));
            refusedLong("more, it has 3, " + side, -3, () -> of("n1;x33;p000000000000;"), y -> y.more(side));
        }
    }

    private void paper() {
        promise(20, "rests");
        says("-3");
        refusedInt("rests()", -3, FEW, StruckJury::rests);
        refusedInt("rests(), nobody is there", -3, NEW, StruckJury::rests);

        promise(21, "rest");
        says("4096 times A's set, and B's; -9 none such");
        StruckJury x = three();
        due("the only one", x.rest(0), 4096 * 2 + 1);
        int[] none = {-1, 1, BIG, LOW};
        for (int i : none) {
            due("rest(" + i + ")", x.rest(i), -9);
        }
        due("it is not counted", x.count(11) + x.count(12) + x.count(13) + x.count(14) + x.count(15) + x.count(16), 0);
        due("none at rest", of("s0:90,10;s1:10,50;n2;p1100;").rest(0), -9);
        x = of("n6;x33;p000000000000;");
        due("the last of the most", x.rest(220 * 220 - 1), 4096 * 0xE00 + 0xE00);
        due("behind the last of the most", x.rest(220 * 220), -9);
        says("-9 none such. -3.");
        refusedInt("rest(0)", -3, FEW, y -> y.rest(0));

        promise(22, "paper");
        says("-3 not enough CALLED");
        refusedLong("paper(1, 2)", -3, FEW, y -> y.paper(1, 2));
        refusedLong("paper(0, 0)", -3, NEW, y -> y.paper(0, 0));
        says("-1 (PEOPLE not CALLED)");
        int[][] wrong = {{8, 1}, {1, 8}, {16, 1}, {1, -1}, {-1, 1}, {LOW, 1}, {1, LOW}};
        for (int[] w : wrong) {
            refusedLong("paper(" + w[0] + ", " + w[1] + ")", -1, BUSY, y -> y.paper(w[0], w[1]));
        }
        says("-3 not as many as STRIKES");
        int[][] counts = {{0, 1}, {1, 0}, {3, 1}, {1, 3}, {7, 7}, {0, 0}};
        for (int[] w : counts) {
            refusedLong("paper(" + w[0] + ", " + w[1] + ")", -3, BUSY, y -> y.paper(w[0], w[1]));
        }
    }

    private void coming() {
        promise(23, "coming");
        says("BEST by COMING: VALUE");
        StruckJury x = three();
        due("coming()", x.coming(), 5000);
        x.sort(2, 100, 100);
        due("coming() after a change", x.coming(), 10000);
        says("-3");
        refusedLong("coming()", -3, FEW, StruckJury::coming);
        refusedLong("coming(), nobody is there", -3, NEW, StruckJury::coming);

        promise(24, "come");
        says("The JURY that comes by it (what 0), KEPT BACK of A (1), of B (2)");
        // B strikes 0, A strikes 1, and all who are still to come are alike.
        x = of("s0:100,100;s1:0,0;n1;x23;p012222;");
        due("the JURY", x.come(0), 4);
        due("of A", x.come(1), 1);
        due("of B", x.come(2), 2);
        says("-2");
        int[] others = {-1, 3, BIG, LOW};
        for (int what : others) {
            refusedInt("come(" + what + ")", -2, BUSY, y -> y.come(what));
        }
        says("-3");
        for (int i = 0; i < 3; i++) {
            int what = i;
            refusedInt("come(" + what + ")", -3, FEW, y -> y.come(what));
        }
    }

    private void seldomAndFinest() {
        promise(25, "seldom");
        says("-1 SORT");
        int[] sorts = {-1, 6, BIG, LOW};
        for (int sort : sorts) {
            refusedLong("seldom(" + sort + ", 0)", -1, BUSY, y -> y.seldom(sort, 0));
        }
        says("-2");
        int[] others = {-1, 2, BIG, LOW};
        for (int what : others) {
            refusedLong("seldom(5, " + what + ")", -2, BUSY, y -> y.seldom(5, what));
        }
        says("-3 (not LAWFUL, too)");
        for (int i = 0; i < 2; i++) {
            int what = i;
            refusedLong("seldom(0, " + what + "), not LAWFUL", -3, PromiseEdges::unlawful, y -> y.seldom(0, what));
            refusedLong("seldom(0, " + what + "), no row", -3, Courts::three, y -> y.seldom(0, what));
            refusedLong("seldom(0, " + what + "), not enough", -3, FEW, y -> y.seldom(0, what));
        }

        promise(26, "finest");
        says("-3");
        refusedInt("finest()", -3, FEW, StruckJury::finest);
        refusedInt("finest(), nobody is there", -3, NEW, StruckJury::finest);
        due("just enough", of("n1;x00;p0;").finest(), 0);
    }

    private void lists() {
        promise(27, "lot");
        says("-2");
        int[] others = {-1, 2, BIG, LOW};
        for (int what : others) {
            refusedLong("lot(" + what + ")", -2, BUSY, y -> y.lot(what));
        }
        says("-3 fewer PEOPLE than NEEDED");
        for (int i = 0; i < 2; i++) {
            int what = i;
            refusedLong("lot(" + what + ")", -3, FEW, y -> y.lot(what));
            refusedLong("lot(" + what + "), one too few", -3, () -> of("n3;x33;p00;"), y -> y.lot(what));
        }
        due("just as many", of("n3;x33;p000;").lot(1), 1);

        promise(28, "trade");
        says("-3 fewer PEOPLE than NEEDED");
        refusedInt("trade()", -3, FEW, StruckJury::trade);
        refusedInt("trade(), one too few", -3, () -> of("n3;x33;p00;"), StruckJury::trade);
        due("just as many", of("n3;x33;p000;").trade(), 7);
    }

    private void leans() {
        promise(29, "wrongly");
        says("-1");
        int[] sorts = {-1, 6, BIG, LOW};
        for (int sort : sorts) {
            refusedLong("wrongly(" + sort + ", 1, 1)", -1, BUSY, y -> y.wrongly(sort, 1, 1));
        }
        says("-4");
        refusedLong("wrongly(5, -1, 1)", -4, BUSY, y -> y.wrongly(5, -1, 1));
        refusedLong("wrongly(5, 1, -1)", -4, BUSY, y -> y.wrongly(5, 1, -1));
        refusedLong("wrongly(5, LOW, 1)", -4, BUSY, y -> y.wrongly(5, LOW, 1));
        says("-6");
        refusedLong("wrongly(5, 101, 1)", -6, BUSY, y -> y.wrongly(5, 101, 1));
        refusedLong("wrongly(5, 1, 101)", -6, BUSY, y -> y.wrongly(5, 1, 101));
        refusedLong("wrongly(5, 1, BIG)", -6, BUSY, y -> y.wrongly(5, 1, BIG));
        says("-3");
        refusedLong("wrongly(5, 0, 100)", -3, FEW, y -> y.wrongly(5, 0, 100));
        due("the least and the greatest", BUSY.get().wrongly(5, 0, 100), 0);
        due("twelve are there", of("s0:100,100;n6;x33;p000000000000;").wrongly(0, 0, 0), 0);

        promise(30, "asked");
        says("-1");
        int[] people = {-1, 4, 12, BIG, LOW};
        for (int person : people) {
            refusedLong("asked(" + person + ", 1)", -1, BUSY, y -> y.asked(person, 1));
        }
        says("-4");
        refusedLong("asked(0, -1)", -4, BUSY, y -> y.asked(0, -1));
        refusedLong("asked(0, LOW)", -4, BUSY, y -> y.asked(0, LOW));
        says("-6 50");
        refusedLong("asked(0, 51)", -6, BUSY, y -> y.asked(0, 51));
        refusedLong("asked(0, BIG)", -6, BUSY, y -> y.asked(0, BIG));
        due("50", of("n1;x10;p00;").asked(0, 50), 5000);
        says("-3 (he is not CALLED, too)");
        refusedLong("asked(3, 1), he is not CALLED", -3, BUSY, y -> y.asked(3, 1));
        refusedLong("asked(0, 1), not enough", -3, FEW, y -> y.asked(0, 1));
        due("the last who is CALLED", BUSY.get().asked(2, 0), 0);
        // A strikes him if he is of the lesser half.
        due("the last of twelve", of("s0:100,100;n6;x33;p000000000000;").asked(11, 50), 0);
    }

    private void image() {
        promise(31, "image");
        says("THE IMAGE is taken: how many PEOPLE");
        StruckJury x = new StruckJury();
        due("none", x.image(), 0);
        read(x, "p000000000000;");
        due("twelve", x.image(), 12);
        x.takeBack();
        due("it is the latest", x.restore(), 12);

        promise(32, "restore");
        says("It is RESTORED: how many PEOPLE");
        due("once more", x.restore(), 12);
        x = new StruckJury();
        x.image();
        x.person(0);
        due("none", x.restore(), 0);
        due("none is there", x.count(0), 0);
        says("-3 there is none");
        refusedInt("restore()", -3, () -> of("p012;n1;"), StruckJury::restore);
        refusedInt("restore() of a new object", -3, NEW, StruckJury::restore);
    }

    private void count() {
        promise(33, "count");
        says("0 PEOPLE");
        due("none", new StruckJury().count(0), 0);
        due("twelve", FULL.get().count(0), 12);
        says("1 those CALLED (0: not enough)");
        due("just enough", three().count(1), 3);
        due("not all", BUSY.get().count(1), 3);
        due("not enough", FEW.get().count(1), 0);
        due("one too few", of("n3;p0000;").count(1), 0);
        due("twelve", of("n6;x33;p000000000000;").count(1), 12);
        due("thirteen", of("n7;x33;p000000000000;").count(1), 0);
        says("2 bytes of the TEXT");
        due("none", three().count(2), 0);
        due("three", BUSY.get().count(2), 3);
        due("eighty", FULL.get().count(2), 80);
        says("3 strikes of the ROW");
        due("none", three().count(3), 0);
        due("six", FULL.get().count(3), 6);
        says("4 .. 9 PEOPLE of SORTS 0 .. 5");
        StruckJury x = of("p555544433221;");
        int[] counts = {0, 1, 2, 2, 3, 4};
        for (int sort = 0; sort <= 5; sort++) {
            due("of SORT " + sort, x.count(4 + sort), counts[sort]);
        }
        due("twelve of one", of("p000000000000;").count(4), 12);
        says("11 .. 16 REFUSALS -1 .. -6");
        x = BUSY.get();
        for (int i = 0; i < 4; i++) {
            x.person(6);
            x.put(i < 1 ? -1 : 0);
            x.lot(i < 2 ? 2 : 1);
            x.chance(i < 3 ? 0 : 1);
            x.set(0, i < 3 ? 8 : 1);
            x.feed(9, 0);
        }
        int[] refusals = {4, 2, 3, 1, 0, 7};
        for (int k = 1; k <= 6; k++) {
            due("REFUSALS -" + k, x.count(10 + k), refusals[k - 1]);
        }
        says("-9 for another what");
        int[] others = {-1, 10, 17, BIG, LOW};
        for (int what : others) {
            due("count(" + what + ")", x.count(what), -9);
        }
        due("it is not counted", x.count(11) + x.count(12) + x.count(13) + x.count(14) + x.count(15) + x.count(16), 17);
    }

    /** The dearest court, asked with all the calls that an object is used for. */
    private void calls() {
        doc.name("What it is", "An object is used for at most 512 calls after it has been made");
        StruckJury x = new StruckJury();
        for (int person = 0; person < 12; person++) {
            x.sort(person % 6, 10 * person % 97, 90 - 7 * person);
            x.person(person % 6);
        }
        x.set(0, 6);
        x.set(1, 3);
        x.set(2, 3);
        long first = x.second();
        for (int call = 29; call < 511; call += 2) {
            due("call " + call, x.takeBack(), 11);
            due("call " + (call + 1), x.person(5), 11);
        }
        due("call 511", x.image(), 12);
        due("call 512", x.second(), first);
    }

    void all() {
        calls();
        newObject();
        sort();
        person();
        takeBack();
        set();
        feed();
        court();
        chanceAndRight();
        bestAndStrike();
        turnsAndOrder();
        row();
        slip();
        secondAndMore();
        paper();
        coming();
        seldomAndFinest();
        lists();
        leans();
        image();
        count();
    }
}
