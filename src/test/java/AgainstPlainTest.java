import java.util.Random;

/** Random runs of calls, each answer held against PlainJury's. */
public final class AgainstPlainTest {
    private static final int RUNS = 400;
    private static final int CALLS = 160;

    private final Random random;
    private final StruckJury jury = new StruckJury();
    private final PlainJury plain = new PlainJury();
    private final StringBuilder told = new StringBuilder();

    private AgainstPlainTest(long seed) {
        random = new Random(seed);
    }

    private void due(String call, long got, long want) {
        told.append(call).append("; ");
        Due.due(call, got, want);
        if (got != want) {
            System.out.println("after " + told);
        }
    }

    /** Mostly from least to greatest, at times a little out of it, seldom far out. */
    private int from(int least, int greatest) {
        int kind = random.nextInt(60);
        if (kind == 0) {
            return random.nextInt();
        }
        if (kind == 1) {
            return least - 1;
        }
        if (kind == 2) {
            return greatest + 1;
        }
        return least + random.nextInt(greatest - least + 1);
    }

    private int lean() {
        int kind = random.nextInt(6);
        return kind == 0 ? 0 : kind == 1 ? 100 : kind < 4 ? 10 * random.nextInt(11) : from(0, 100);
    }

    private int setOf(int among, int size) {
        int set = 0;
        for (int tries = 0; tries < 100 && Integer.bitCount(set) < size && among > 0; tries++) {
            set |= 1 << random.nextInt(among);
        }
        return random.nextInt(25) == 0 ? set ^ (1 << random.nextInt(13)) : set;
    }

    private int term(int what) {
        int v = random.nextInt(50);
        int was = plain.set(what, v % 2);
        jury.set(what, v % 2);
        plain.set(what, was);
        jury.set(what, was);
        return was;
    }

    private void feedText(String text) {
        for (int at = 0; at < text.length(); at += 8) {
            int n = Math.min(8, text.length() - at);
            long bytes = 0;
            for (int i = 0; i < n; i++) {
                bytes |= (long) text.charAt(at + i) << 8 * i;
            }
            due("feed(" + n + ", " + bytes + "L)", jury.feed(n, bytes), plain.feed(n, bytes));
        }
    }

    private String number() {
        int kind = random.nextInt(12);
        return kind == 0 ? "0" + random.nextInt(10) : kind == 1 ? "" + random.nextInt(1200) : "" + random.nextInt(101);
    }

    private String statement() {
        StringBuilder s = new StringBuilder();
        switch (random.nextInt(6)) {
            case 0 -> s.append('s').append(random.nextInt(6)).append(':').append(number()).append(',').append(number());
            case 1 -> {
                s.append('p');
                for (int i = random.nextInt(7) + (random.nextInt(8) == 0 ? 0 : 1); i > 0; i--) {
                    s.append(random.nextInt(6));
                }
            }
            case 2 -> s.append('n').append(random.nextInt(40) == 0 ? random.nextInt(10) : 1 + random.nextInt(7));
            case 3 -> s.append('x').append(random.nextInt(4)).append(random.nextInt(random.nextInt(8) == 0 ? 6 : 4));
            case 4 -> s.append('h').append(random.nextInt(random.nextInt(8) == 0 ? 4 : 2));
            default -> s.append('t').append(number());
        }
        return s.append(';').toString();
    }

    private void readCourt() {
        StringBuilder s = new StringBuilder();
        for (int i = random.nextInt(5); i > 0; i--) {
            s.append(statement());
        }
        if (s.length() > 0 && random.nextInt(3) == 0) {
            int at = random.nextInt(s.length());
            switch (random.nextInt(3)) {
                case 0 -> s.setCharAt(at, (char) random.nextInt(256));
                case 1 -> s.deleteCharAt(at);
                default -> s.setLength(at);
            }
        }
        feedText(s.toString());
        due("court() of " + s, jury.court(), plain.court());
    }

    private void change() {
        switch (random.nextInt(9)) {
            case 0, 1 -> {
                int sort = from(0, 5);
                int lean = lean();
                int other = lean();
                due("sort(" + sort + ", " + lean + ", " + other + ")",
                    jury.sort(sort, lean, other), plain.sort(sort, lean, other));
            }
            case 2, 3, 4 -> {
                int sort = from(0, 5);
                due("person(" + sort + ")", jury.person(sort), plain.person(sort));
            }
            case 5 -> {
                int what = from(0, 4);
                int v = what == 0 ? from(1, 7) : what < 3 ? from(0, 3) : what == 3 ? from(0, 1) : from(0, 100);
                due("set(" + what + ", " + v + ")", jury.set(what, v), plain.set(what, v));
            }
            case 6 -> readCourt();
            case 7 -> {
                if (random.nextInt(3) == 0) {
                    due("takeBack()", jury.takeBack(), plain.takeBack());
                }
                if (random.nextInt(12) == 0) {
                    due("image()", jury.image(), plain.image());
                }
                if (random.nextInt(12) == 0) {
                    due("restore()", jury.restore(), plain.restore());
                }
            }
            default -> {
                int n = random.nextInt(20) == 0 ? from(1, 8) : 9;
                long bytes = random.nextLong();
                due("feed(" + n + ", " + bytes + "L)", jury.feed(n, bytes), plain.feed(n, bytes));
            }
        }
    }

    private void putRow() {
        due("unput()", jury.unput(), plain.unput());
        int called = Math.max(1, plain.count(1));
        int strikes = term(1) + term(2) + (random.nextInt(15) == 0 ? 1 : 0);
        boolean asBest = random.nextBoolean();
        int out = 0;
        for (int i = 0; i < strikes; i++) {
            int p = random.nextInt(called);
            for (int tries = 0; tries < 12 && (out >> p & 1) == 1; tries++) {
                p = (p + 1) % called;
            }
            int due = asBest ? plain.order(i) : -9;
            if (asBest) {
                jury.order(i);
            }
            if (due >= 0 && (out >> due & 1) == 0 && random.nextInt(5) > 0) {
                p = due;
            }
            p = random.nextInt(40) == 0 ? from(0, 11) : p;
            out |= 1 << (p & 15);
            due("put(" + p + ")", jury.put(p), plain.put(p));
        }
    }

    private void askRow() {
        if (random.nextInt(3) > 0) {
            putRow();
        }
        due("lawful()", jury.lawful(), plain.lawful());
        due("slip(false)", jury.slip(false), plain.slip(false));
        due("slip(true)", jury.slip(true), plain.slip(true));
        int sort = from(0, 5);
        int what = from(0, 1);
        due("seldom(" + sort + ", " + what + ")", jury.seldom(sort, what), plain.seldom(sort, what));
    }

    private void askTurns() {
        int needed = term(0);
        int people = plain.count(0);
        int a = random.nextInt(4);
        int b = random.nextInt(4);
        int left = setOf(people, needed + a + b);
        int strikes = random.nextInt(30) == 0 ? from(0, 45) : 10 * a + b;
        int side = from(0, 1);
        String args = "(" + left + ", " + strikes + ", " + side + ")";
        due("best" + args, jury.best(left, strikes, side), plain.best(left, strikes, side));
        due("strike" + args, jury.strike(left, strikes, side), plain.strike(left, strikes, side));
        due("turns()", jury.turns(), plain.turns());
        int i = from(0, 6);
        due("order(" + i + ")", jury.order(i), plain.order(i));
        due("second()", jury.second(), plain.second());
        due("more(" + side + ")", jury.more(side), plain.more(side));
    }

    private void askPaper() {
        int called = plain.count(1);
        int a = setOf(called, term(1));
        int b = setOf(called, term(2));
        due("paper(" + a + ", " + b + ")", jury.paper(a, b), plain.paper(a, b));
        int rests = plain.rests();
        due("rests()", jury.rests(), rests);
        int i = from(0, Math.max(1, rests));
        due("rest(" + i + ")", jury.rest(i), plain.rest(i));
        due("finest()", jury.finest(), plain.finest());
    }

    private void askComing() {
        due("coming()", jury.coming(), plain.coming());
        int what = from(0, 2);
        due("come(" + what + ")", jury.come(what), plain.come(what));
    }

    private void askJuries() {
        int j = setOf(plain.count(0), term(0));
        due("chance(" + j + ")", jury.chance(j), plain.chance(j));
        due("right(" + j + ")", jury.right(j), plain.right(j));
        int what = from(0, 1);
        due("lot(" + what + ")", jury.lot(what), plain.lot(what));
        due("trade()", jury.trade(), plain.trade());
    }

    private void askLeans() {
        int sort = from(0, 5);
        int lean = lean();
        int other = lean();
        due("wrongly(" + sort + ", " + lean + ", " + other + ")",
            jury.wrongly(sort, lean, other), plain.wrongly(sort, lean, other));
        int person = from(0, Math.max(1, plain.count(1)));
        int split = from(0, 50);
        due("asked(" + person + ", " + split + ")", jury.asked(person, split), plain.asked(person, split));
    }

    private void run() {
        for (int call = 0; call < CALLS && !Due.isWrong(); call++) {
            switch (random.nextInt(14)) {
                case 0 -> askRow();
                case 1 -> askTurns();
                case 2 -> askPaper();
                case 3 -> askComing();
                case 4 -> askJuries();
                case 5 -> askLeans();
                default -> change();
            }
        }
        for (int what = -1; what < 18; what++) {
            due("count(" + what + ")", jury.count(what), plain.count(what));
        }
    }

    public static void main(String[] args) {
        int runs = args.length > 0 ? Integer.parseInt(args[0]) : RUNS;
        long seed = args.length > 1 ? Long.parseLong(args[1]) : 1;
        for (int i = 0; i < runs && !Due.isWrong(); i++) {
            new AgainstPlainTest(seed + i).run();
        }
        Due.end();
    }
}
