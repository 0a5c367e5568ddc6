import java.util.Arrays;

/** Each sentence under "Terms" that names an edge, with cases by hand; parts I to III. */
final class TermEdges extends Courts {
    private final Sentences doc;

    TermEdges(Sentences doc) {
        this.doc = doc;
    }

    private void term(String sentence) {
        doc.name("Terms", sentence);
    }

    /** 100 to the NEEDED and 1: what is told for always. */
    private static long always(int needed) {
        long told = 100;
        for (int i = 0; i < needed; i++) {
            told *= 100;
        }
        return told;
    }

    /** A court of those NEEDED, of whom some always find for A, all others for B; nobody is struck. */
    private static StruckJury sure(int needed, int forA, String terms) {
        String people = "0000000".substring(0, forA) + "1111111".substring(0, needed - forA);
        return of("s0:100,100;s1:0,0;x00;n" + needed + ";" + terms + "p" + people + ";");
    }

    // ---- I ----

    private void sorts() {
        term("SORTS 0 .. 5");
        StruckJury x = new StruckJury();
        for (int sort = 0; sort <= 5; sort++) {
            due("sort(" + sort + ", ..)", x.sort(sort, 1, 1), 1);
            due("person(" + sort + ")", x.person(sort), sort);
        }
        due("sort(-1, ..)", x.sort(-1, 1, 1), -1);
        due("sort(6, ..)", x.sort(6, 1, 1), -1);
        due("person(-1)", x.person(-1), -1);
        due("person(6)", x.person(6), -1);
    }

    private void leans() {
        term("each with two LEANS (0 .. 100 hundredths");
        StruckJury x = of("n1;x00;p0;");
        due("the least", x.sort(0, 0, 0), 1);
        due("chance(1)", x.chance(1), 0);
        due("the greatest", x.sort(0, 100, 100), 1);
        due("chance(1)", x.chance(1), 10000);
        due("LEAN 0 below", x.sort(0, -1, 50), -4);
        due("LEAN 1 below", x.sort(0, 50, -1), -4);
        due("LEAN 0 above", x.sort(0, 101, 50), -6);
        due("LEAN 1 above", x.sort(0, 50, 101), -6);
        due("chance(1)", x.chance(1), 10000);

        term("50 and 50 at first");
        for (int sort = 0; sort <= 5; sort++) {
            x = of("n1;t100;p" + sort + ";");
            due("LEAN 0 of SORT " + sort, x.chance(1), 5000);
            x.set(4, 0);
            due("LEAN 1 of SORT " + sort, x.chance(1), 5000);
        }

        term("how often one of it finds for A, if A is right (LEAN 0), if B is (LEAN 1)");
        x = of("s0:100,0;n1;t100;p0;");
        due("A is right", x.chance(1), 10000);
        x.set(4, 0);
        due("B is right", x.chance(1), 0);
    }

    private void people() {
        term("PEOPLE 0 .. 11 as they come, each of a SORT");
        StruckJury x = of("s0:100,100;s1:0,0;n1;");
        for (int person = 0; person <= 11; person++) {
            due("person", x.person(person % 2), person);
        }
        due("a 13th", x.person(0), -6);
        due("the first is of SORT 0", x.chance(1), 10000);
        due("the last is of SORT 1", x.chance(1 << 11), 0);
        refused("there is no 12", x.chance(1 << 12), -1);
    }

    private void whatIsSet() {
        term("NEEDED (1 .. 7; 3 at first)");
        dueRange(0, 1, 7, 3);
        term("STRIKES of A and of B (0 .. 3; 1 each at first)");
        dueRange(1, 0, 3, 1);
        dueRange(2, 0, 3, 1);
        term("else nothing; 0 at first");
        dueRange(3, 0, 1, 0);
        term("TRUTH (0 .. 100 hundredths for A being right; 50 at first)");
        dueRange(4, 0, 100, 50);
    }

    private static void dueRange(int what, int least, int greatest, int first) {
        StruckJury x = new StruckJury();
        due("set(" + what + "): what it was at first", x.set(what, least), first);
        due("set(" + what + "): the least", x.set(what, greatest), least);
        due("set(" + what + "): the greatest", x.set(what, greatest), greatest);
        due("set(" + what + "): below", x.set(what, least - 1), -4);
        due("set(" + what + "): above", x.set(what, greatest + 1), -6);
        due("set(" + what + "): as it was", x.set(what, least), greatest);
    }

    private void howTheyFind() {
        term("0 by MOST: A, if more than half find for A, else B");
        for (int needed = 1; needed <= 7; needed++) {
            for (int forA = 0; forA <= needed; forA++) {
                boolean findsA = forA > needed - forA;
                StruckJury x = sure(needed, forA, "h0;t0;");
                int jury = (1 << needed) - 1;
                due(forA + " of " + needed + " find for A", x.chance(jury), findsA ? always(needed) : 0);
                due(forA + " of " + needed + ", B is right", x.right(jury), findsA ? 0 : always(needed));
            }
        }

        term("1 by ALL: A, if all find for A, B, if none does, else nothing");
        for (int needed = 1; needed <= 7; needed++) {
            for (int forA = 0; forA <= needed; forA++) {
                StruckJury x = sure(needed, forA, "h1;t0;");
                int jury = (1 << needed) - 1;
                due(forA + " of " + needed + " find for A", x.chance(jury), forA == needed ? always(needed) : 0);
                due(forA + " of " + needed + ", B is right", x.right(jury), forA == 0 ? always(needed) : 0);
                x.set(4, 100);
                due(forA + " of " + needed + ", A is right", x.right(jury), forA == needed ? always(needed) : 0);
            }
        }
    }

    private void juries() {
        term("A JURY is a set of just NEEDED PEOPLE");
        StruckJury x = of("n2;p000;");
        due("two", x.chance(5), 250000);
        refused("one", x.chance(4), -3);
        refused("three", x.chance(7), -3);
        refused("none", x.right(0), -3);

        term("TRUTH hundredths of the time by LEAN 0, else by LEAN 1");
        x = of("s0:100,0;n1;p0;");
        int[] truths = {0, 1, 50, 99, 100};
        for (int truth : truths) {
            x.set(4, truth);
            due("TRUTH " + truth, x.chance(1), 100L * truth);
        }

        term("told times 100 to the NEEDED and 1 (a whole number)");
        for (int needed = 1; needed <= 7; needed++) {
            int jury = (1 << needed) - 1;
            due("always, " + needed, sure(needed, needed, "").chance(jury), always(needed));
            due("never, " + needed, sure(needed, 0, "").chance(jury), 0);
        }
        x = of("s0:1,0;n7;h1;t1;p0000000;");
        due("the least there is", x.chance(127), 1);

        term("RIGHT of it: how often it finds for who is right, likewise (TRUTH hundredths of the time A being right)");
        x = of("s0:100,100;n1;p0;");
        for (int truth : truths) {
            x.set(4, truth);
            due("who finds for A, TRUTH " + truth, x.right(1), 100L * truth);
        }
        x.sort(0, 0, 0);
        for (int truth : truths) {
            x.set(4, truth);
            due("who finds for B, TRUTH " + truth, x.right(1), 100L * (100 - truth));
        }
        due("seven, always", of("s0:100,0;n7;p0000000;").right(127), always(7));
        due("seven, never", of("s0:0,100;n7;p0000000;").right(127), 0);
    }

    private void called() {
        term("CALLED are the first PEOPLE by numbers, NEEDED and STRIKES of both together");
        StruckJury x = of("s0:100,100;s1:0,0;n1;p0001;");
        due("three of four", x.count(1), 3);
        due("the fourth is not among them", x.turns(), 10000);
        x.set(2, 2);
        due("all four", x.count(1), 4);
        // A strikes who is for B, so that those who are for A are left.
        due("the fourth is among them", x.order(0), 3);
        x = of("n7;x32;p000000000000;");
        due("seven, three and two: twelve", x.count(1), 12);
        x = of("n1;x00;p0;");
        due("one", x.count(1), 1);

        term("fewer are not enough: -3");
        x = of("n3;x21;p000000;");
        due("just enough", x.count(1), 6);
        dueEnough(x, true);
        x.takeBack();
        due("one too few", x.count(1), 0);
        dueEnough(x, false);
        x = of("n7;x33;p000000000000;");
        due("thirteen are never there", x.count(1), 0);
        dueEnough(x, false);
    }

    /** All calls that look at those CALLED. */
    private static void dueEnough(StruckJury x, boolean isEnough) {
        putAll(x, 0, 1, 2);
        long[] longs = {x.turns(), x.slip(true), x.second(), x.paper(3, 4), x.coming(), x.seldom(0, 1),
            x.wrongly(0, 1, 1), x.asked(0, 1)};
        for (int i = 0; i < longs.length; i++) {
            due("whether it is refused with -3, " + i, longs[i] == -3 - Due.LONG ? 1 : 0, isEnough ? 0 : 1);
        }
        int[] ints = {x.order(0), x.lawful(), x.rests(), x.rest(0), x.come(0), x.finest()};
        for (int i = 0; i < ints.length; i++) {
            due("whether it is refused with -3, " + (8 + i), ints[i] == -3 ? 1 : 0, isEnough ? 0 : 1);
        }
        if (!isEnough) {
            refused("more(0)", x.more(0), -3);
            refused("more(1)", x.more(1), -3);
        }
    }

    // ---- II ----

    private void turns() {
        term("A strikes one of those CALLED who are left, then B one, and so on");
        // Who strikes his own, or the one between, loses: the other side has its own left at last.
        StruckJury x = of("s0:100,100;s1:0,0;n1;x22;p010120;");
        dueOrder(x, 1, 0, 3, 2);
        due("turns()", x.turns(), 5000);

        term("who has none any more is passed over; then all left are the JURY");
        x = of("s0:100,100;s1:0,0;n1;x13;p10002;");
        dueOrder(x, 0, 1, 2, 3);
        due("one and three", x.turns(), 5000);
        x = of("s0:100,100;s1:0,0;n1;x31;p01112;");
        dueOrder(x, 1, 0, 2, 3);
        due("three and one", x.turns(), 5000);
        x = of("s0:100,100;n1;x03;p0002;");
        dueOrder(x, 0, 1, 2);
        due("none and three", x.turns(), 5000);
        x = of("s1:0,0;n1;x30;p1112;");
        dueOrder(x, 0, 1, 2);
        due("three and none", x.turns(), 5000);
        x = of("s0:100,100;n2;x00;p02;");
        dueOrder(x);
        due("nobody strikes", x.turns(), 500000);
    }

    private void best() {
        term("whose turn it is; who has none is passed over)");
        StruckJury x = three();
        due("A has two, B's turn", x.best(7, 20, 1), 10000);
        due("A strikes", x.strike(7, 20, 1), 1);
        due("B has two, A's turn", x.best(7, 2, 0), 0);
        due("B strikes", x.strike(7, 2, 0), 0);
        due("neither has any, A's turn", x.best(4, 0, 0), 5000);
        due("neither has any, B's turn", x.best(4, 0, 1), 5000);

        term("the STRIKE: the one by which that comes, of several the least");
        x = of("s0:100,100;s1:0,0;n1;p221122001100;");
        due("twins: the least", x.strike(0b1100, 10, 0), 2);
        due("those for B: the least", x.strike(0b1000001100, 20, 0), 2);
        due("those for A: the least", x.strike(0b10011000000, 2, 1), 6);
        due("the last", x.strike(0b110000000000, 10, 0), 10);
        due("the least is no STRIKE", x.strike(0b1001, 1, 1), 0);
        due("the least is no STRIKE", x.strike(0b1001, 10, 0), 3);
        x.set(0, 6);
        x.sort(0, 50, 50);
        x.sort(1, 50, 50);
        due("twelve alike, A's turn", x.strike(4095, 33, 0), 0);
        due("twelve alike, B's turn", x.strike(4095, 33, 1), 0);
        dueOrder(of("n6;x33;p000000000000;"), 0, 1, 2, 3, 4, 5);
    }

    private void rows() {
        term("LAWFUL, if each is one who is left, and as many as STRIKES are");
        StruckJury x = of("n1;x21;p00000;");
        dueLawful(x, 1, 0, 1, 2);
        dueLawful(x, 1, 3, 2, 1);
        dueLawful(x, 0, 0, 1, 0);
        dueLawful(x, 0, 0, 0, 1);
        dueLawful(x, 0, 0, 1, 4);
        dueLawful(x, 0, 11, 1, 2);
        dueLawful(x, 0, 0, 1);
        dueLawful(x, 0, 0, 1, 2, 3);
        dueLawful(x, 0);
        dueLawful(of("n1;x00;p0;"), 1);
        dueLawful(of("n1;x00;p0;"), 0, 0);
        dueLawful(of("n6;x33;p000000000000;"), 1, 11, 0, 10, 1, 9, 2);
    }

    private static void dueLawful(StruckJury x, int want, int... people) {
        putAll(x, people);
        due("lawful() of " + Arrays.toString(people), x.lawful(), want);
    }

    private void slips() {
        // A must strike 1 and 3, B must strike 0 and 2: any other strike gives all away.
        StruckJury x = of("s0:100,100;s1:0,0;n1;x22;p01012;");
        term("The first SLIP: the place in it of the first strike by which the VALUE");
        dueSlip(x, -9, 0, 1, 0, 3, 2);
        dueSlip(x, -9, 0, 3, 2, 1, 0);
        dueSlip(x, 0, 5000, 0, 2, 1, 3);
        dueSlip(x, 3, 5000, 1, 0, 3, 4);
        dueSlip(x, 1, 5000, 1, 4, 3, 2);
        dueSlip(x, 1, 5000, 1, 4, 0, 2);
        dueSlip(of("n1;x00;p0;"), -9, 0);

        term("how much it loses its side");
        dueSlip(x, 2, 5000, 1, 0, 4, 2);
        dueSlip(x, 3, 5000, 1, 0, 3, 4);
        x = of("s0:100,100;s1:0,0;n1;x01;p01;");
        dueSlip(x, 0, 10000, 1);
        x = of("s0:100,100;s1:0,0;n1;x10;p01;");
        dueSlip(x, 0, 10000, 0);
    }

    private static void dueSlip(StruckJury x, long place, long loss, int... people) {
        putAll(x, people);
        String row = Arrays.toString(people);
        due("slip(false) of " + row, x.slip(false), place);
        due("slip(true) of " + row, x.slip(true), loss);
    }

    private void second() {
        term("SECOND: BEST with B first less BEST with A first");
        // {0,0} 410000, {1,1} 130000, one of each 70000: who strikes last leaves what he likes.
        StruckJury x = of("s0:90,10;s1:10,50;n2;p1100;");
        due("A second", x.best(15, 11, 1), 130000);
        due("A first", x.best(15, 11, 0), 70000);
        due("second()", x.second(), 60000);
        x = of("s0:90,10;s1:10,50;n2;x02;p1100;");
        due("A has none", x.second(), 0);
        x = of("s0:90,10;s1:10,50;n2;x20;p1100;");
        due("B has none", x.second(), 0);
        x = of("s0:90,10;s1:10,50;n2;x00;p10;");
        due("neither has any", x.second(), 0);
    }

    private void more() {
        term("BEST if A (or B) had one STRIKE more (one more is CALLED then), less BEST");
        StruckJury x = of("s0:100,100;s1:0,0;n1;x00;p10;");
        due("A strikes the one who is for B", x.more(0), 10000);
        x = of("s0:100,100;s1:0,0;n1;x00;p11;");
        due("the one more is no better", x.more(0), 0);
        // With B's one the first strike is A's, so that B leaves what it likes: 70000 as ahead of it.
        due("A is first", of("s0:90,10;s1:10,50;n2;x01;p1100;").more(0), 0);
        x = of("n6;x23;p000000000000;");
        due("A's third, the twelfth who is CALLED", x.more(0), 0);

        term("for B with its sign turned");
        x = of("s0:100,100;s1:0,0;n1;x00;p01;");
        due("B strikes the one who is for A", x.more(1), 10000);
        x = of("s0:100,100;s1:0,0;n1;x00;p00;");
        due("the one more is no better", x.more(1), 0);
        due("A is first", of("s0:90,10;s1:10,50;n2;x10;p1100;").more(1), 130000 - 70000);

        term("-3 if there are not so many PEOPLE, or it has 3");
        x = of("n1;x21;p0000;");
        refused("four of four are CALLED", x.more(0), -3);
        refused("four of four are CALLED", x.more(1), -3);
        x.person(0);
        due("a fifth is there, A has 2", x.more(0), 0);
        x.set(1, 3);
        x.person(0);
        refused("a sixth is there, A has 3", x.more(0), -3);
        due("a sixth is there, B has 1", x.more(1), 0);
        x = of("n1;x13;p000000;");
        refused("a sixth is there, B has 3", x.more(1), -3);
        due("a sixth is there, A has 1", x.more(0), 0);
    }

    private void paper() {
        term("both write down sets of those CALLED, just as many as their STRIKES, at once");
        StruckJury x = of("n1;x12;p00000;");
        due("one and two", x.paper(1, 6), 5000);
        refused("A writes none", x.paper(0, 6), -3);
        refused("A writes two", x.paper(3, 6), -3);
        refused("B writes one", x.paper(1, 4), -3);
        refused("B writes three", x.paper(1, 14), -3);
        refused("the fifth is not CALLED", x.paper(16, 6), -1);
        due("neither writes any", of("n1;x00;p0;").paper(0, 0), 5000);

        term("all written are out; of those left the first NEEDED by numbers are the JURY");
        x = of("s0:100,100;s1:0,0;n2;p0010;");
        due("both the first: 1 and 2 of three", x.paper(1, 1), 0);
        due("both the third: 0 and 1 of three", x.paper(4, 4), 1000000);
        due("both the last: 0 and 1 of three", x.paper(8, 8), 1000000);
        due("the first and the third: all left", x.paper(1, 4), 1000000);
        due("the first and the last: all left", x.paper(8, 1), 0);
        x = of("s0:100,100;s1:0,0;n1;x33;p1110000;");
        due("three each, the same", x.paper(7, 7), 10000);
        due("three each, no two the same", x.paper(7, 56), 10000);
        due("three each, the first is left", x.paper(14, 112), 0);

        term("if A has no set with a greater VALUE against B's, and B none with a lesser against A's");
        x = three();
        due("one pair", x.rests(), 1);
        due("A's 1, B's 0", x.rest(0), 4096 * 2 + 1);
        x = of("s0:100,100;s1:0,0;n1;p120;");
        due("one pair", x.rests(), 1);
        due("A's 0, B's 2", x.rest(0), 4096 + 4);
        x.sort(0, 50, 50);
        x.sort(1, 50, 50);
        due("all, as all are alike now", x.rests(), 9);
        x.sort(0, 100, 100);
        x.sort(1, 0, 0);
        due("one pair again", x.rests(), 1);
        due("none", of("s0:90,10;s1:10,50;n2;p1100;").rests(), 0);
        due("all, as all are alike", of("n1;p000;").rests(), 9);
        due("nothing to write", of("n1;x00;p0;").rests(), 1);
        x = of("n3;x33;p000000000;");
        x.coming();
        read(x, "n1;x00;");
        due("nothing to write any more", x.rests(), 1);

        term("Pairs are told by A's set, then B's, as bits");
        x = of("n1;x12;p0000;");
        int[] ofA = {1, 2, 4, 8};
        int[] ofB = {3, 5, 6, 9, 10, 12};
        for (int i = 0; i < 24; i++) {
            due("rest(" + i + ")", x.rest(i), 4096 * ofA[i / 6] + ofB[i % 6]);
        }
        due("rest(24)", x.rest(24), -9);
    }

    private void coming() {
        term("A strikes him or not (if it has any left), then B, if he is not struck; else he is seated");
        dueCome("A has none", "s0:100,100;s1:0,0;n1;x01;p10;", 1, 0, 1, 0);
        dueCome("B has none", "s0:100,100;s1:0,0;n1;x10;p01;", 1, 1, 0, 10000);
        dueCome("A has one left for two", "s0:100,100;s1:0,0;n1;x10;p11;", 1, 1, 0, 0);
        dueCome("A strikes 0, B need not then", "s0:100,100;s1:0,0;n1;p100;", 2, 0, 1, 10000);
        dueCome("B strikes 0, A then 1", THREE, 4, 0, 0, 5000);
        // A strikes 0 and has none left for 1; B has none to strike 1 with.
        dueCome("A's last", "s0:100,100;s1:0,0;s3:10,10;n1;x20;p311;", 1, 2, 0, 1000);

        term("as soon as NEEDED are seated");
        dueCome("the first alone", "s0:100,100;s1:0,0;n1;p001;", 1, 1, 1, 10000);
        dueCome("the first seven", "n7;x32;p000000000000;", 127, 3, 2, 50000000L * 100000000L);

        term("as many as are still to come are NEEDED to be seated (then all of them are)");
        dueCome("all from the first on", "n3;x00;p000;", 7, 0, 0, 50000000);
        dueCome("the last alone", THREE, 4, 0, 0, 5000);
        dueCome("the last two", "s0:100,100;s1:0,0;n2;x10;h1;p100;", 6, 0, 0, 1000000);

        term("a side that has it as good either way does not strike");
        dueCome("all alike", "n2;x33;p00000000;", 3, 3, 3, 250000);
        dueCome("all for A", "s0:100,100;n1;x13;p00000;", 1, 1, 3, 10000);
        dueCome("all for B", "s1:0,0;n1;x31;p11111;", 1, 3, 1, 0);

        term("KEPT BACK: how many strikes of a side are left then");
        dueCome("A keeps two of three", "s0:100,100;s1:0,0;n1;x30;p1000;", 2, 2, 0, 10000);
        dueCome("B keeps one of three", "s0:100,100;s1:0,0;n1;x03;p0012;", 4, 0, 1, 0);
        dueCome("B keeps two of three", "s0:100,100;s1:0,0;n1;x03;p0122;", 2, 0, 2, 0);
        dueCome("A keeps none", "s0:100,100;s1:0,0;n1;x30;p1110;", 8, 0, 0, 10000);
        dueCome("A keeps none of three, B one", "s0:100,100;s1:0,0;n1;x31;p11100;", 8, 0, 1, 10000);
    }

    /** Each on an object of its own, so that none rests on what another call worked out. */
    private static void dueCome(String which, String court, int jury, int keptA, int keptB, long value) {
        due(which + ": come(0)", of(court).come(0), jury);
        due(which + ": come(1)", of(court).come(1), keptA);
        due(which + ": come(2)", of(court).come(2), keptB);
        due(which + ": coming()", of(court).coming(), value);
    }

    // ---- III ----

    private void seldom() {
        term("as A's strikes in a ROW that is told fell on PEOPLE of a SORT k times");
        StruckJury x = of("n2;x12;p01010;");
        putAll(x, 0, 1, 3);
        due("B's strikes do not count: k is 0", x.seldom(1, 0), 5);
        due("k is 1", x.seldom(0, 0), 3);

        term("of all sets of those CALLED of as many as A has, in how many k or more are of it; of how many sets");
        x = of("n1;x30;p00110000;");
        putAll(x, 0, 1, 2);
        due("k is 2 of two", x.seldom(0, 0), 2);
        due("of how many", x.seldom(0, 1), 4);
        due("k is 1 of two", x.seldom(1, 0), 4);
        due("k is 0", x.seldom(5, 0), 4);
        x = of("n5;x31;p000000000111;");
        putAll(x, 0, 3, 1, 2);
        due("k is 3, all are of it", x.seldom(0, 0), 84);
        due("of how many", x.seldom(0, 1), 84);
        x = of("n1;x02;p000;");
        putAll(x, 0, 1);
        due("A has none", x.seldom(0, 0), 1);
        due("A has none, of how many", x.seldom(0, 1), 1);
        x = of("n6;x33;p000111222222;");
        putAll(x, 0, 3, 1, 4, 2, 5);
        due("the three there are", x.seldom(0, 0), 1);
        due("of how many", x.seldom(0, 1), 220);
    }

    private void finest() {
        // Sorts 2 and 3 have the same CHANCE, so all strikes are as good; but 3 is always right.
        term("the one whose JURY (by what is BEST, strikes as told above) is RIGHT most often; of several the least");
        // By TURNS 0 and 1 are struck, on PAPER both write 0, as they COME 0 is seated.
        String[] people = {"333", "223", "232", "322", "332", "323", "233"};
        int[] ways = {0, 0, 1, 2, 1, 0, 0};
        for (int i = 0; i < people.length; i++) {
            due("finest() of " + people[i], of("s3:100,0;n1;p" + people[i] + ";").finest(), ways[i]);
        }

        // All who are written are out: A writes 2, B 1, and those left are right most often.
        StruckJury x = of("s0:10,50;s1:50,100;s2:50,0;n2;h1;p2102;");
        due("the first pair", x.rest(0), 4096 * 4 + 2);
        due("its JURY", x.right(9), 625000);
        due("finest()", x.finest(), 1);

        // {0, 2} and {0, 3} have the same CHANCE; by TURNS B strikes 2, the lesser, but only 3 is at rest.
        x = of("s0:66,28;s1:13,75;s2:100,34;s3:72,88;n2;t45;p0123;");
        due("just one pair", x.rests(), 1);
        due("A's 1, B's 3", x.rest(0), 4096 * 2 + 8);
        due("finest()", x.finest(), 1);

        term("(A way that has none does not count.)");
        // The first two would be right 500000, but none is at rest; by turns it is 475000.
        x = of("s0:0,50;s1:100,0;s2:90,10;n2;p0102;");
        due("rests()", x.rests(), 0);
        due("the first two", x.right(3), 500000);
        due("finest()", x.finest(), 0);
    }

    private void lists() {
        term("LOT: RIGHT added up over all JURIES of all PEOPLE; how many these are");
        StruckJury x = of("s3:100,0;n1;x00;p23;");
        due("he who is not CALLED, too", x.lot(0), 15000);
        due("how many", x.lot(1), 2);
        x.set(0, 2);
        due("just one", x.lot(1), 1);
        due("its RIGHT", x.lot(0), 750000);
        x = of("s0:100,0;n7;x33;p000000000000;");
        due("the most there can be", x.lot(0), 792 * always(7));

        term("by turns of SORTS 0, 1, .. the first one of each that is not taken yet");
        due("from 0 on", of("n1;p543210;").trade(), 32);
        due("all six", of("n6;p543210;").trade(), 63);
        due("behind 5 from 0 on again", of("n7;p55443322100;").trade(), 0b11101010101);
        due("the first of each", of("n2;p1100;").trade(), 5);

        term("(a SORT without any is passed over)");
        due("only 5", of("n7;p5555555;").trade(), 127);
        due("0 has none any more", of("n5;p01111;").trade(), 31);
        due("2, 4 and 2", of("n3;p44422;").trade(), 8 + 1 + 16);
    }

    private void wrongly() {
        term("by TURNS A does what is best by its own (for both), B what is best by the true ones");
        StruckJury x = three();
        due("A strikes his own", x.wrongly(0, 0, 0), -5000);
        due("B still does his best", x.wrongly(1, 100, 100), -5000);
        // A takes 1 for its own and strikes 3; B strikes 0 and 2, and the one for B is left.
        x = of("s0:100,100;s1:0,0;n1;x12;p0102;");
        due("one and two strikes", x.wrongly(1, 100, 100), 0 - 5000);
        // A takes 3 for its own and strikes 0; B strikes 2, A strikes 1, and the one for B is left.
        x = of("s0:100,100;s1:0,0;n1;x21;p0201;");
        due("two strikes and one", x.wrongly(1, 100, 100), 0 - 10000);

        term("the VALUE that comes, by true LEANS, less BEST");
        x = three();
        due("the true ones", x.wrongly(0, 100, 100), 0);
        due("of nobody", x.wrongly(5, 0, 100), 0);
        x.set(1, 0);
        due("A has no strikes", x.wrongly(0, 0, 0), 0);
        x.set(2, 0);
        due("neither has any", x.wrongly(0, 0, 0), 0);
    }

    private void asking() {
        term("half of its PEOPLE have LEANS by so much more (0 .. 50, held to 100), half less (held to 0)");
        StruckJury x = of("s0:100,100;s1:0,0;s2:50,50;s3:90,10;n1;x00;p0;");
        due("by 0", x.asked(0, 0), 0);
        due("100 and 50 of 100", x.asked(0, 50), 10000 + 5000 - 20000);
        x = of("s1:0,0;n1;x00;p1;");
        due("50 and 0 of 0", x.asked(0, 50), 5000);
        x = of("s3:90,10;n1;x00;t100;p3;");
        due("100 and 80 of 90", x.asked(0, 10), 0);
        due("100 and 79 of 90", x.asked(0, 11), 10000 + 7900 - 18000);
        x.set(4, 0);
        due("20 and 0 of 10", x.asked(0, 10), 0);
        due("21 and 0 of 10", x.asked(0, 11), 2100 - 2000);
        refused("by 51", x.asked(0, 51), -6);
        refused("by -1", x.asked(0, -1), -4);

        term("less BEST as now (as told by LEANS, not SPLIT): told times two");
        x = of("n1;x10;p00;");
        due("A strikes him if he is of the lesser half", x.asked(1, 50), 10000 + 5000 - 2 * 5000);
        due("nothing is split behind it", x.turns(), 5000);
        x = of("n1;x01;p00;");
        due("B strikes him if he is of the greater half", x.asked(0, 50), 5000 + 0 - 2 * 5000);
        x = of("s0:90,10;s1:10,50;n2;p1100;");
        due("A is first", x.asked(0, 10), 120000 + 70000 - 2 * 70000);
    }

    void all() {
        sorts();
        leans();
        people();
        whatIsSet();
        howTheyFind();
        juries();
        called();
        turns();
        best();
        rows();
        slips();
        second();
        more();
        paper();
        coming();
        seldom();
        finest();
        lists();
        wrongly();
        asking();
    }
}
