import java.util.ArrayList;
import java.util.HashMap;
import java.util.List;
import java.util.Map;
import java.util.regex.Matcher;
import java.util.regex.Pattern;

/**
 * The document once more, as slowly and plainly as it can be told: every vote
 * is gone through, every strike is tried, every pair is held against every other.
 */
final class PlainJury {
    private static final Pattern COURT = Pattern.compile(
        "(s[0-5]:(0|[1-9][0-9]{0,2}),(0|[1-9][0-9]{0,2});|p[0-5]{1,12};|n[1-7];|x[0-3][0-3];|h[01];"
        + "|t(0|[1-9][0-9]{0,2});)*");
    private static final Pattern NUMBER = Pattern.compile("(?<=[:,t])(0|[1-9][0-9]{0,2})");

    private static final class State {
        int[][] leans = new int[6][2];
        List<Integer> people = new ArrayList<>();
        int[] terms = {3, 1, 1, 0, 50};

        State() {
            for (int[] lean : leans) {
                lean[0] = 50;
                lean[1] = 50;
            }
        }

        State copy() {
            State copy = new State();
            for (int sort = 0; sort < 6; sort++) {
                copy.leans[sort] = leans[sort].clone();
            }
            copy.people.addAll(people);
            copy.terms = terms.clone();
            return copy;
        }
    }

    /** How it ends when people come one by one. */
    private record End(long value, int jury, int keptA, int keptB) {
    }

    private State now = new State();
    private State image = null;
    private String text = "";
    private final List<Integer> row = new ArrayList<>();
    private final int[] refusals = new int[7];

    /** The leans of each person as the one who looks holds them. */
    private int[][] held;
    private final Map<Integer, Long> chances = new HashMap<>();
    private final Map<Integer, Long> bests = new HashMap<>();

    private int no(int number) {
        refusals[-number]++;
        return number;
    }

    private long noLong(int number) {
        return no(number) - 4000000000000000000L;
    }

    private int needed() {
        return now.terms[0];
    }

    private int strikesA() {
        return now.terms[1];
    }

    private int strikesB() {
        return now.terms[2];
    }

    private int people() {
        return now.people.size();
    }

    private int called() {
        int n = needed() + strikesA() + strikesB();
        return n <= people() ? n : 0;
    }

    private static int first(int n) {
        return (1 << n) - 1;
    }

    private static int size(int set) {
        return Integer.bitCount(set);
    }

    private static boolean has(int set, int person) {
        return (set >> person & 1) == 1;
    }

    private void look() {
        held = new int[people()][];
        for (int p = 0; p < people(); p++) {
            held[p] = now.leans[now.people.get(p)].clone();
        }
        forget();
    }

    private void forget() {
        chances.clear();
        bests.clear();
    }

    /** Every way in which the jury can vote. */
    private long found(int jury, int lean, boolean forA) {
        List<Integer> seated = new ArrayList<>();
        for (int p = 0; p < people(); p++) {
            if (has(jury, p)) {
                seated.add(p);
            }
        }
        int n = seated.size();
        long sum = 0;
        for (int votes = 0; votes < 1 << n; votes++) {
            int k = size(votes);
            boolean finds;
            if (now.terms[3] == 0) {
                finds = forA == (k > n - k);
            } else {
                finds = forA ? k == n : k == 0;
            }
            if (!finds) {
                continue;
            }
            long product = 1;
            for (int i = 0; i < n; i++) {
                int p = held[seated.get(i)][lean];
                product *= has(votes, i) ? p : 100 - p;
            }
            sum += product;
        }
        return sum;
    }

    private long chanceNow(int jury) {
        Long known = chances.get(jury);
        if (known == null) {
            long t = now.terms[4];
            known = t * found(jury, 0, true) + (100 - t) * found(jury, 1, true);
            chances.put(jury, known);
        }
        return known;
    }

    private long rightNow(int jury) {
        long t = now.terms[4];
        return t * found(jury, 0, true) + (100 - t) * found(jury, 1, false);
    }

    private long bestNow(int left, int a, int b, int side) {
        if (a == 0 && b == 0) {
            return chanceNow(left);
        }
        if ((side == 0 ? a : b) == 0) {
            return bestNow(left, a, b, 1 - side);
        }
        int key = ((left * 4 + a) * 4 + b) * 2 + side;
        Long known = bests.get(key);
        if (known != null) {
            return known;
        }
        long best = side == 0 ? -1 : Long.MAX_VALUE;
        for (int p = 0; p < 12; p++) {
            if (has(left, p)) {
                long v = afterStrike(left, a, b, side, p);
                best = side == 0 ? Math.max(best, v) : Math.min(best, v);
            }
        }
        bests.put(key, best);
        return best;
    }

    private long afterStrike(int left, int a, int b, int side, int p) {
        int then = left - (1 << p);
        return side == 0 ? bestNow(then, a - 1, b, 1) : bestNow(then, a, b - 1, 0);
    }

    private int strikeNow(int left, int a, int b, int side) {
        if (a == 0 && b == 0) {
            return -9;
        }
        if ((side == 0 ? a : b) == 0) {
            return strikeNow(left, a, b, 1 - side);
        }
        long best = bestNow(left, a, b, side);
        for (int p = 0; p < 12; p++) {
            if (has(left, p) && afterStrike(left, a, b, side, p) == best) {
                return p;
            }
        }
        throw new IllegalStateException();
    }

    /** The sides of the strikes in their order. */
    private List<Integer> sides() {
        List<Integer> sides = new ArrayList<>();
        int a = strikesA();
        int b = strikesB();
        while (a + b > 0) {
            if (a > 0) {
                sides.add(0);
                a--;
            }
            if (b > 0) {
                sides.add(1);
                b--;
            }
        }
        return sides;
    }

    private List<Integer> orderNow() {
        List<Integer> order = new ArrayList<>();
        int left = first(called());
        int a = strikesA();
        int b = strikesB();
        for (int side : sides()) {
            int p = strikeNow(left, a, b, side);
            order.add(p);
            left -= 1 << p;
            a -= 1 - side;
            b -= side;
        }
        return order;
    }

    int sort(int sort, int lean, int other) {
        if (sort < 0 || sort > 5) {
            return no(-1);
        }
        if (Math.min(lean, other) < 0) {
            return no(-4);
        }
        if (Math.max(lean, other) > 100) {
            return no(-6);
        }
        now.leans[sort] = new int[] {lean, other};
        return 1;
    }

    int person(int sort) {
        if (sort < 0 || sort > 5) {
            return no(-1);
        }
        if (people() == 12) {
            return no(-6);
        }
        now.people.add(sort);
        return people() - 1;
    }

    int takeBack() {
        if (people() == 0) {
            return no(-3);
        }
        now.people.remove(people() - 1);
        return people();
    }

    int set(int what, int v) {
        if (what < 0 || what > 4) {
            return no(-2);
        }
        if (v < (what == 0 ? 1 : 0)) {
            return no(-4);
        }
        if (v > new int[] {7, 3, 3, 1, 100}[what]) {
            return no(-6);
        }
        int was = now.terms[what];
        now.terms[what] = v;
        return was;
    }

    int feed(int n, long bytes) {
        if (n < 1) {
            return no(-4);
        }
        if (n > 8 || text.length() + n > 80) {
            return no(-6);
        }
        for (int i = 0; i < n; i++) {
            text += (char) (bytes >> 8 * i & 255);
        }
        return text.length();
    }

    private int faultOf(String t) {
        int fault = -1;
        for (int k = 0; k < t.length() && fault < 0; k++) {
            Matcher m = COURT.matcher(t.substring(0, k + 1));
            if (!m.matches() && !m.hitEnd()) {
                fault = k;
            }
        }
        if (fault < 0 && !COURT.matcher(t).matches()) {
            fault = t.length();
        }
        int end = fault < 0 ? t.length() : fault;
        Matcher numbers = NUMBER.matcher(t.substring(0, end));
        while (numbers.find()) {
            if (Integer.parseInt(numbers.group()) > 100) {
                end = numbers.start();
                fault = end;
                break;
            }
        }
        int there = people();
        for (int k = 0; k < end; k++) {
            int p = t.lastIndexOf('p', k);
            if (p >= 0 && p < k && t.indexOf(';', p) < 0 || p >= 0 && p < k && t.indexOf(';', p) > k) {
                there++;
                if (there == 13) {
                    return k;
                }
            }
        }
        return fault;
    }

    int court() {
        String t = text;
        text = "";
        int fault = faultOf(t);
        String whole = fault < 0 ? t : t.substring(0, t.substring(0, fault).lastIndexOf(';') + 1);
        int came = 0;
        for (String statement : whole.isEmpty() ? new String[0] : whole.split(";")) {
            came++;
            String rest = statement.substring(1);
            switch (statement.charAt(0)) {
                case 's' -> {
                    String[] leans = rest.substring(2).split(",");
                    now.leans[rest.charAt(0) - '0'] =
                        new int[] {Integer.parseInt(leans[0]), Integer.parseInt(leans[1])};
                }
                case 'p' -> rest.chars().forEach(c -> now.people.add(c - '0'));
                case 'n' -> now.terms[0] = Integer.parseInt(rest);
                case 'x' -> {
                    now.terms[1] = rest.charAt(0) - '0';
                    now.terms[2] = rest.charAt(1) - '0';
                }
                case 'h' -> now.terms[3] = Integer.parseInt(rest);
                default -> now.terms[4] = Integer.parseInt(rest);
            }
        }
        return fault < 0 ? came : -20 - fault;
    }

    long chance(int jury) {
        if ((jury | first(people())) != first(people())) {
            return noLong(-1);
        }
        if (size(jury) != needed()) {
            return noLong(-3);
        }
        look();
        return chanceNow(jury);
    }

    long right(int jury) {
        if ((jury | first(people())) != first(people())) {
            return noLong(-1);
        }
        if (size(jury) != needed()) {
            return noLong(-3);
        }
        look();
        return rightNow(jury);
    }

    private int leftRefusal(int left, int strikes, int side) {
        if (side != 0 && side != 1 || (left | first(people())) != first(people())) {
            return -1;
        }
        if (strikes < 0) {
            return -4;
        }
        if (strikes > 33 || strikes % 10 > 3) {
            return -6;
        }
        return size(left) == needed() + strikes / 10 + strikes % 10 ? 0 : -3;
    }

    long best(int left, int strikes, int side) {
        int refusal = leftRefusal(left, strikes, side);
        if (refusal != 0) {
            return noLong(refusal);
        }
        look();
        return bestNow(left, strikes / 10, strikes % 10, side);
    }

    int strike(int left, int strikes, int side) {
        int refusal = leftRefusal(left, strikes, side);
        if (refusal != 0) {
            return no(refusal);
        }
        look();
        return strikeNow(left, strikes / 10, strikes % 10, side);
    }

    private long turnsNow() {
        return bestNow(first(called()), strikesA(), strikesB(), 0);
    }

    long turns() {
        if (called() == 0) {
            return noLong(-3);
        }
        look();
        return turnsNow();
    }

    int order(int i) {
        if (called() == 0) {
            return no(-3);
        }
        look();
        List<Integer> order = orderNow();
        return i >= 0 && i < order.size() ? order.get(i) : -9;
    }

    int put(int person) {
        if (person < 0) {
            return no(-4);
        }
        if (person > 11 || row.size() == 6) {
            return no(-6);
        }
        row.add(person);
        return row.size();
    }

    int unput() {
        int had = row.size();
        row.clear();
        return had;
    }

    private boolean isLawful() {
        return called() > 0
            && row.size() == strikesA() + strikesB()
            && row.stream().distinct().count() == row.size()
            && row.stream().allMatch(p -> p < called());
    }

    int lawful() {
        if (called() == 0) {
            return no(-3);
        }
        return isLawful() ? 1 : 0;
    }

    long slip(boolean loss) {
        if (!isLawful()) {
            return noLong(-3);
        }
        look();
        int left = first(called());
        int a = strikesA();
        int b = strikesB();
        List<Integer> sides = sides();
        for (int i = 0; i < row.size(); i++) {
            int side = sides.get(i);
            long ahead = bestNow(left, a, b, side);
            long then = afterStrike(left, a, b, side, row.get(i));
            if (ahead != then) {
                return !loss ? i : side == 0 ? ahead - then : then - ahead;
            }
            left -= 1 << row.get(i);
            a -= 1 - side;
            b -= side;
        }
        return loss ? 0 : -9;
    }

    long second() {
        if (called() == 0) {
            return noLong(-3);
        }
        look();
        return bestNow(first(called()), strikesA(), strikesB(), 1) - turnsNow();
    }

    long more(int side) {
        if (side != 0 && side != 1) {
            return noLong(-1);
        }
        if (called() == 0 || people() < called() + 1 || now.terms[1 + side] == 3) {
            return noLong(-3);
        }
        look();
        long was = turnsNow();
        now.terms[1 + side]++;
        long then = turnsNow();
        now.terms[1 + side]--;
        return side == 0 ? then - was : was - then;
    }

    private int paperJury(int a, int b) {
        int jury = 0;
        for (int p = 0; p < called() && size(jury) < needed(); p++) {
            if (!has(a, p) && !has(b, p)) {
                jury |= 1 << p;
            }
        }
        return jury;
    }

    private static List<Integer> setsOf(int n, int k) {
        List<Integer> sets = new ArrayList<>();
        for (int s = 0; s < 1 << n; s++) {
            if (size(s) == k) {
                sets.add(s);
            }
        }
        return sets;
    }

    /** Each pair held against all that either side could have written. */
    private List<Integer> restsNow() {
        List<Integer> as = setsOf(called(), strikesA());
        List<Integer> bs = setsOf(called(), strikesB());
        long[][] values = new long[as.size()][bs.size()];
        for (int i = 0; i < as.size(); i++) {
            for (int j = 0; j < bs.size(); j++) {
                values[i][j] = chanceNow(paperJury(as.get(i), bs.get(j)));
            }
        }
        List<Integer> rests = new ArrayList<>();
        for (int i = 0; i < as.size(); i++) {
            for (int j = 0; j < bs.size(); j++) {
                if (isAtRest(values, i, j)) {
                    rests.add(4096 * as.get(i) + bs.get(j));
                }
            }
        }
        return rests;
    }

    private static boolean isAtRest(long[][] values, int i, int j) {
        for (long[] other : values) {
            if (other[j] > values[i][j]) {
                return false;
            }
        }
        for (long other : values[i]) {
            if (other < values[i][j]) {
                return false;
            }
        }
        return true;
    }

    int rests() {
        if (called() == 0) {
            return no(-3);
        }
        look();
        return restsNow().size();
    }

    int rest(int i) {
        if (called() == 0) {
            return no(-3);
        }
        look();
        List<Integer> rests = restsNow();
        return i >= 0 && i < rests.size() ? rests.get(i) : -9;
    }

    long paper(int a, int b) {
        if (called() == 0) {
            return noLong(-3);
        }
        int all = first(called());
        if ((a | all) != all || (b | all) != all) {
            return noLong(-1);
        }
        if (size(a) != strikesA() || size(b) != strikesB()) {
            return noLong(-3);
        }
        look();
        return chanceNow(paperJury(a, b));
    }

    private End comeNow(int next, int seated, int a, int b) {
        int toCome = called() - next;
        if (size(seated) == needed()) {
            return new End(chanceNow(seated), seated, a, b);
        }
        if (toCome == needed() - size(seated)) {
            int jury = seated;
            for (int p = next; p < called(); p++) {
                jury |= 1 << p;
            }
            return new End(chanceNow(jury), jury, a, b);
        }
        End end = comeNow(next + 1, seated | 1 << next, a, b);
        if (b > 0) {
            End struck = comeNow(next + 1, seated, a, b - 1);
            end = struck.value < end.value ? struck : end;
        }
        if (a > 0) {
            End struck = comeNow(next + 1, seated, a - 1, b);
            end = struck.value > end.value ? struck : end;
        }
        return end;
    }

    long coming() {
        if (called() == 0) {
            return noLong(-3);
        }
        look();
        return comeNow(0, 0, strikesA(), strikesB()).value;
    }

    int come(int what) {
        if (what < 0 || what > 2) {
            return no(-2);
        }
        if (called() == 0) {
            return no(-3);
        }
        look();
        End end = comeNow(0, 0, strikesA(), strikesB());
        return what == 0 ? end.jury : what == 1 ? end.keptA : end.keptB;
    }

    private int ofSort(int set, int sort) {
        int k = 0;
        for (int p = 0; p < people(); p++) {
            if (has(set, p) && now.people.get(p) == sort) {
                k++;
            }
        }
        return k;
    }

    long seldom(int sort, int what) {
        if (sort < 0 || sort > 5) {
            return noLong(-1);
        }
        if (what != 0 && what != 1) {
            return noLong(-2);
        }
        if (!isLawful()) {
            return noLong(-3);
        }
        int struck = 0;
        List<Integer> sides = sides();
        for (int i = 0; i < row.size(); i++) {
            if (sides.get(i) == 0) {
                struck |= 1 << row.get(i);
            }
        }
        int k = ofSort(struck, sort);
        List<Integer> sets = setsOf(called(), strikesA());
        return what == 1 ? sets.size() : sets.stream().filter(s -> ofSort(s, sort) >= k).count();
    }

    int finest() {
        if (called() == 0) {
            return no(-3);
        }
        look();
        int byTurns = first(called());
        for (int p : orderNow()) {
            byTurns -= 1 << p;
        }
        List<Integer> rests = restsNow();
        long[] rights = {
            rightNow(byTurns),
            rests.isEmpty() ? -1 : rightNow(paperJury(rests.get(0) / 4096, rests.get(0) % 4096)),
            rightNow(comeNow(0, 0, strikesA(), strikesB()).jury)};
        int best = 0;
        for (int i = 1; i < 3; i++) {
            if (rights[i] > rights[best]) {
                best = i;
            }
        }
        return best;
    }

    long lot(int what) {
        if (what != 0 && what != 1) {
            return noLong(-2);
        }
        if (people() < needed()) {
            return noLong(-3);
        }
        look();
        List<Integer> juries = setsOf(people(), needed());
        long sum = 0;
        for (int jury : juries) {
            sum += what == 0 ? rightNow(jury) : 1;
        }
        return sum;
    }

    int trade() {
        if (people() < needed()) {
            return no(-3);
        }
        int jury = 0;
        for (int sort = 0; size(jury) < needed(); sort = (sort + 1) % 6) {
            for (int p = 0; p < people(); p++) {
                if (!has(jury, p) && now.people.get(p) == sort) {
                    jury |= 1 << p;
                    break;
                }
            }
        }
        return jury;
    }

    long wrongly(int sort, int lean, int other) {
        if (sort < 0 || sort > 5) {
            return noLong(-1);
        }
        if (Math.min(lean, other) < 0) {
            return noLong(-4);
        }
        if (Math.max(lean, other) > 100) {
            return noLong(-6);
        }
        if (called() == 0) {
            return noLong(-3);
        }
        int left = first(called());
        int a = strikesA();
        int b = strikesB();
        for (int side : sides()) {
            look();
            for (int p = 0; p < people(); p++) {
                if (side == 0 && now.people.get(p) == sort) {
                    held[p] = new int[] {lean, other};
                }
            }
            left -= 1 << strikeNow(left, a, b, side);
            a -= 1 - side;
            b -= side;
        }
        look();
        return chanceNow(left) - turnsNow();
    }

    long asked(int person, int split) {
        if (person < 0 || person >= people()) {
            return noLong(-1);
        }
        if (split < 0) {
            return noLong(-4);
        }
        if (split > 50) {
            return noLong(-6);
        }
        if (person >= called()) {
            return noLong(-3);
        }
        look();
        int[] leans = held[person];
        long sum = -2 * turnsNow();
        held[person] = new int[] {Math.min(100, leans[0] + split), Math.min(100, leans[1] + split)};
        forget();
        sum += turnsNow();
        held[person] = new int[] {Math.max(0, leans[0] - split), Math.max(0, leans[1] - split)};
        forget();
        return sum + turnsNow();
    }

    int image() {
        image = now.copy();
        return people();
    }

    int restore() {
        if (image == null) {
            return no(-3);
        }
        now = image.copy();
        return people();
    }

    int count(int what) {
        if (what >= 11 && what <= 16) {
            return refusals[what - 10];
        }
        if (what >= 4 && what <= 9) {
            return ofSort(-1, what - 4);
        }
        return what == 0 ? people() : what == 1 ? called() : what == 2 ? text.length() : what == 3 ? row.size() : -9;
    }
}
