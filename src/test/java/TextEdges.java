/** Each sentence under "Terms", part IV and REFUSALS, that names an edge. */
final class TextEdges extends Courts {
    private final Sentences doc;

    TextEdges(Sentences doc) {
        this.doc = doc;
    }

    private void term(String sentence) {
        doc.name("Terms", sentence);
    }

    private static void came(String text, int statements) {
        due("court() of '" + text + "'", read(new StruckJury(), text), statements);
    }

    // ---- IV ----

    private void longest() {
        term("A COURT is a TEXT (80 bytes at most)");
        String text = "n1;".repeat(24) + "t50;t49;";
        StruckJury x = new StruckJury();
        due("80 bytes, all read", read(x, text), 26);
        due("its last", x.set(4, 0), 49);
        feedAll(x, text);
        due("an 81st", x.feed(1, 'n'), -6);
        due("80 bytes once more", x.court(), 26);
        faultAt("n1;".repeat(26) + "t5", 80);
        faultAt("n1;".repeat(26) + "nn", 79);
    }

    private void statements() {
        term("STATEMENTS, each with \";\" behind");
        came("", 0);
        came("n1;", 1);
        faultAt(";", 0);
        faultAt("n1;;", 3);
        faultAt("n1", 2);
        faultAt("n1n1;", 2);
        faultAt("s0:1,1n1;", 6);
        faultAt("p0n1;", 2);
        faultAt("x11n1;", 3);
        faultAt("h1n1;", 2);
        faultAt("t1n1;", 2);

        term("\"s\" and a SORT (a digit), \":\", LEAN 0, \",\", LEAN 1");
        came("s0:0,100;s5:100,0;", 2);
        faultAt("s6:0,0;", 1);
        faultAt("s/:0,0;", 1);
        faultAt("s:0,0;", 1);
        faultAt("s00:0,0;", 2);
        faultAt("s0,0,0;", 2);
        faultAt("s0:,0;", 3);
        faultAt("s0:0:0;", 4);
        faultAt("s0:0;", 4);
        faultAt("s0:0,;", 5);
        faultAt("s0:0,0,0;", 6);

        term("\"p\" and SORTS (one digit each, 1 to 12): PEOPLE");
        StruckJury x = new StruckJury();
        due("one", read(x, "p5;"), 1);
        due("PEOPLE", x.count(0), 1);
        x = new StruckJury();
        due("twelve", read(x, "p012345012345;"), 1);
        due("PEOPLE", x.count(0), 12);
        faultAt("p;", 1);
        faultAt("p6;", 1);
        faultAt("p06;", 2);
        faultAt("p/;", 1);
        faultAt("p0,0;", 2);

        term("\"n\" a digit NEEDED; \"x\" two digits: STRIKES of A, of B; \"h\" a digit HOW; \"t\" TRUTH");
        came("n1;n7;x00;x33;h0;h1;t0;t100;", 8);
        faultAt("n0;", 1);
        faultAt("n8;", 1);
        faultAt("n;", 1);
        faultAt("n07;", 1);
        faultAt("n77;", 2);
        faultAt("x40;", 1);
        faultAt("x04;", 2);
        faultAt("x;", 1);
        faultAt("x3;", 2);
        faultAt("x333;", 3);
        faultAt("h2;", 1);
        faultAt("h;", 1);
        faultAt("h00;", 2);
        faultAt("t;", 1);
    }

    private void numbers() {
        term("NUMBERS of 1 to 3 digits without a 0 ahead of others");
        came("t0;t9;t10;t99;t100;s0:0,9;s0:10,99;s0:100,100;", 8);
        faultAt("t00;", 2);
        faultAt("t01;", 2);
        faultAt("t0100;", 2);
        faultAt("t1000;", 4);
        faultAt("t;", 1);
        faultAt("t-1;", 1);
        faultAt("t+1;", 1);
        faultAt("t 1;", 1);
        faultAt("t:;", 1);
        faultAt("t/;", 1);
        faultAt("t1:;", 2);
        faultAt("t1/;", 2);
        faultAt("s0:00,1;", 4);
        faultAt("s0:1000,1;", 6);
        faultAt("s0:1,01;", 6);
        faultAt("s0:1,1000;", 8);

        term("of a NUMBER out of range its first byte");
        faultAt("t101;", 1);
        faultAt("t999;", 1);
        faultAt("t110;", 1);
        faultAt("s0:101,1;", 3);
        faultAt("s0:1,101;", 5);
        faultAt("n1;t100;t200;", 9);
    }

    private void faults() {
        term("the place of the first byte that can not stand");
        faultAt("q", 0);
        faultAt(" n1;", 0);
        faultAt("n1; ", 3);
        faultAt("N1;", 0);
        faultAt("n1:", 2);
        faultAt("n1;q;n9;", 3);
        faultAt("n1;" + (char) 0, 3);
        faultAt("n1;" + (char) 255, 3);
        faultAt("n" + (char) ('1' + 128) + ";", 1);

        term("the end, if something lacks");
        String[] lacking = {"s", "s0", "s0:", "s0:1", "s0:1,", "s0:1,1", "p", "p0", "n", "n1", "x", "x1", "x11", "h",
            "h1", "t", "t1", "t10", "t100"};
        for (String text : lacking) {
            faultAt(text, text.length());
            faultAt("n1;" + text, 3 + text.length());
        }

        term("of a 13th PERSON his digit");
        faultAt("p0000000000000;", 13);
        faultAt("p000000;p0000000;", 15);
        StruckJury x = of("p000000000000;");
        due("twelve are there", read(x, "p0;"), -21);
        x.takeBack();
        due("eleven are there", read(x, "p00;"), -22);
        due("eleven are there, one comes", read(x, "p0;"), 1);
        due("twelve are there again", read(x, "n1;p0;"), -24);
    }

    private void ahead() {
        term("What is whole ahead of a FAULT came, too");
        StruckJury x = new StruckJury();
        due("court()", read(x, "s0:100,0;p00;n1;x23;h1;t7;q"), -46);
        due("LEAN 0 and 1", x.chance(1), 700);
        due("PEOPLE", x.count(0), 2);
        due("NEEDED", x.set(0, 2), 1);
        due("STRIKES of A", x.set(1, 1), 2);
        due("STRIKES of B", x.set(2, 1), 3);
        due("HOW", x.set(3, 0), 1);
        due("TRUTH", x.set(4, 50), 7);
        due("what stands behind a FAULT did not", read(x, "q;n7;"), -20);
        due("NEEDED", x.set(0, 1), 2);

        term("(PEOPLE of a STATEMENT that is not whole did not)");
        String[] texts = {"p01", "p016;", "p01n1;", "p0123450123451;"};
        for (String text : texts) {
            x = new StruckJury();
            read(x, "p0;" + text);
            due("PEOPLE of '" + text + "'", x.count(0), 1);
        }
    }

    private void takenBack() {
        term("The latest PERSON may be TAKEN BACK");
        StruckJury x = of("p012345012345;");
        for (int left = 11; left >= 0; left--) {
            due("takeBack()", x.takeBack(), left);
            due("of his SORT are left", x.count(4 + left % 6), left / 6);
        }
        due("there is none", x.takeBack(), -3);
        due("one comes again", x.person(3), 0);
    }

    private void image() {
        term("THE IMAGE: all that there is, but it, the TEXT, the ROW, REFUSALS");
        StruckJury x = of("s0:1,2;n1;x23;h1;t7;p01;");
        due("image()", x.image(), 2);
        read(x, "s0:3,4;n2;x01;h0;t8;p2;");
        for (int i = 0; i < 3; i++) {
            x.takeBack();
        }
        x.person(5);
        putAll(x, 5, 6, 7);
        feedAll(x, "n3;");
        x.come(9);
        due("restore()", x.restore(), 2);
        due("LEANS", x.chance(1), 7 + 93 * 2);
        due("PEOPLE", 100 * x.count(4) + 10 * x.count(5) + x.count(6), 110);
        due("NEEDED", x.set(0, 1), 1);
        due("STRIKES of A", x.set(1, 1), 2);
        due("STRIKES of B", x.set(2, 1), 3);
        due("HOW", x.set(3, 1), 1);
        due("TRUTH", x.set(4, 1), 7);
        due("the ROW is as it was", x.count(3), 3);
        due("REFUSALS are as they were", x.count(12), 1);
        due("the TEXT is as it was", x.court(), 1);
        due("NEEDED by the TEXT", x.set(0, 1), 3);
        due("the IMAGE is still there", x.restore(), 2);
        due("TRUTH once more", x.set(4, 1), 7);
    }

    // ---- REFUSALS ----

    private void firstThatFits() {
        term("the first that fits in the order in which it tells them");
        refusedInt("sort(6, -1, 101)", -1, BUSY, x -> x.sort(6, -1, 101));
        refusedInt("sort(0, 101, -1)", -4, BUSY, x -> x.sort(0, 101, -1));
        refusedInt("sort(0, -1, 101)", -4, BUSY, x -> x.sort(0, -1, 101));
        refusedInt("person(6), no room", -1, FULL, x -> x.person(6));
        refusedInt("set(5, -1)", -2, BUSY, x -> x.set(5, -1));
        refusedInt("set(5, 101)", -2, BUSY, x -> x.set(5, 101));
        refusedInt("feed(0), no room", -4, FULL, x -> x.feed(0, 0));
        refusedLong("chance(48)", -1, BUSY, x -> x.chance(48));
        refusedLong("right(48)", -1, BUSY, x -> x.right(48));
        refusedInt("put(-1), no room", -4, FULL, x -> x.put(-1));
        refusedLong("more(2), not enough", -1, FEW, x -> x.more(2));
        refusedLong("paper(-1, 1), not enough", -3, FEW, x -> x.paper(-1, 1));
        refusedLong("paper(9, 1)", -1, BUSY, x -> x.paper(9, 1));
        refusedInt("come(3), not enough", -2, FEW, x -> x.come(3));
        refusedLong("seldom(6, 2), not enough", -1, FEW, x -> x.seldom(6, 2));
        refusedLong("seldom(0, 2), not enough", -2, FEW, x -> x.seldom(0, 2));
        refusedLong("lot(2), fewer than NEEDED", -2, FEW, x -> x.lot(2));
        refusedLong("wrongly(6, -1, 101), not enough", -1, FEW, x -> x.wrongly(6, -1, 101));
        refusedLong("wrongly(0, 101, -1), not enough", -4, FEW, x -> x.wrongly(0, 101, -1));
        refusedLong("wrongly(0, 0, 101), not enough", -6, FEW, x -> x.wrongly(0, 0, 101));
        refusedLong("asked(4, -1)", -1, BUSY, x -> x.asked(4, -1));
        refusedLong("asked(4, 51)", -1, BUSY, x -> x.asked(4, 51));
        refusedLong("asked(3, -1), he is not CALLED", -4, BUSY, x -> x.asked(3, -1));
        refusedLong("asked(3, 51), he is not CALLED", -6, BUSY, x -> x.asked(3, 51));
        int[][] wrong = {{16, -1, 0, -1}, {7, -1, 2, -1}, {7, 44, 2, -1}, {3, 11, 2, -1}, {48, 44, 0, -1}, {3, -1, 0, -4},
            {3, 41, 0, -6}, {3, 14, 0, -6}};
        for (int[] w : wrong) {
            String args = "(" + w[0] + ", " + w[1] + ", " + w[2] + ")";
            refusedLong("best" + args, w[3], BUSY, x -> x.best(w[0], w[1], w[2]));
            refusedInt("strike" + args, w[3], BUSY, x -> x.strike(w[0], w[1], w[2]));
        }
    }

    private void eachNumber() {
        term("-1 NOBODY: no such SORT, PERSON, side (0 A, 1 B)");
        refusedInt("SORT", -1, BUSY, x -> x.person(6));
        refusedLong("PERSON", -1, BUSY, x -> x.asked(4, 1));
        refusedLong("side 2", -1, BUSY, x -> x.more(2));
        refusedLong("side -1", -1, BUSY, x -> x.more(-1));
        due("0 is A", of("s0:100,100;s1:0,0;n1;x00;p10;").more(0), 10000);
        due("1 is B", of("s0:100,100;s1:0,0;n1;x00;p01;").more(1), 10000);

        term("-2 OTHER: what");
        refusedInt("set(-1, 1)", -2, BUSY, x -> x.set(-1, 1));
        refusedInt("come(3)", -2, BUSY, x -> x.come(3));
        refusedLong("lot(2)", -2, BUSY, x -> x.lot(2));
        refusedLong("seldom(0, 2)", -2, BUSY, x -> x.seldom(0, 2));

        term("-3 STATE: it is not as told, or not enough are CALLED");
        refusedInt("there is none", -3, NEW, StruckJury::takeBack);
        refusedLong("not enough are CALLED", -3, FEW, StruckJury::turns);

        term("-4 BELOW: a number below the least");
        refusedInt("below", -4, BUSY, x -> x.put(-1));
        refusedInt("far below", -4, BUSY, x -> x.put(LOW));

        term("-6 ROOM: a number above the greatest, no room");
        refusedInt("above", -6, BUSY, x -> x.put(12));
        refusedInt("far above", -6, BUSY, x -> x.put(BIG));
        refusedInt("no room", -6, FULL, x -> x.put(0));
    }

    private void longs() {
        term("Of longs REFUSALS are 4000000000000000000 less (-4000000000000000001 ..)");
        StruckJury x = BUSY.get();
        due("-1", x.more(2), -4000000000000000001L);
        due("-2", x.lot(2), -4000000000000000002L);
        due("-3", x.chance(0), -4000000000000000003L);
        due("-4", x.asked(0, -1), -4000000000000000004L);
        due("-6", x.asked(0, 51), -4000000000000000006L);
        putAll(x, 1, 0);
        due("-9 is none of them", x.slip(false), -9);
    }

    private void counted() {
        term("nothing changes but how many there were");
        StruckJury x = new StruckJury();
        for (int i = 1; i <= 100; i++) {
            due("takeBack()", x.takeBack(), -3);
            due("REFUSALS -3", x.count(13), i);
        }
        due("-9 is none of them", x.count(10), -9);
        due("strike(), none to do", of("n1;p0;").strike(1, 0, 0), -9);
        for (int k = 1; k <= 6; k++) {
            due("REFUSALS -" + k, x.count(10 + k), k == 3 ? 100 : 0);
        }
    }

    void all() {
        longest();
        statements();
        numbers();
        faults();
        ahead();
        takenBack();
        image();
        firstThatFits();
        eachNumber();
        longs();
        counted();
    }
}
